/-- SpurlineLaw.does: what it does to a club -/
def h_does (N : Nat) (σ : gSt) (x1 x2 x3 x4 : Int32) : Option (Int32 × gSt) :=
  if x1 = 0 then
    (some (f_X9_setHeight σ x2 x3 x4)).bind (fun (q_9 : Nat × Int32 × gSt) =>
    if ¬ (q_9.1 = 0 ∨ q_9.1 = 1 ∨ q_9.1 = 2 ∨ q_9.1 = 3) then none else
    if q_9.1 = 0 then
      some (q_9.2.1, q_9.2.2)
    else
      some ((-8), q_9.2.2))
  else
    if x1 = 1 then
      (f_X9_visit N σ x2 x3).bind (fun (q_23 : Nat × Int32 × gSt) =>
      if ¬ (q_23.1 = 0 ∨ q_23.1 = 1 ∨ q_23.1 = 2 ∨ q_23.1 = 3) then none else
      if q_23.1 = 0 then
        some (q_23.2.1, q_23.2.2)
      else
        some ((-8), q_23.2.2))
    else
      if x1 = 2 then
        (f_X9_arrange N σ x2 x3).bind (fun (q_37 : Nat × Int32 × gSt) =>
        if ¬ (q_37.1 = 0 ∨ q_37.1 = 1 ∨ q_37.1 = 2 ∨ q_37.1 = 3) then none else
        if q_37.1 = 0 then
          some (q_37.2.1, q_37.2.2)
        else
          some ((-8), q_37.2.2))
      else
        if x1 = 3 then
          (some (f_X9_enter σ x2 x3)).bind (fun (q_51 : Nat × Int32 × gSt) =>
          if ¬ (q_51.1 = 0 ∨ q_51.1 = 1 ∨ q_51.1 = 2 ∨ q_51.1 = 3) then none else
          if q_51.1 = 0 then
            some (q_51.2.1, q_51.2.2)
          else
            some ((-8), q_51.2.2))
        else
          if x1 = 4 then
            (f_X9_draw N σ x2 x3).bind (fun (q_65 : Nat × Int32 × gSt) =>
            if ¬ (q_65.1 = 0 ∨ q_65.1 = 1 ∨ q_65.1 = 2 ∨ q_65.1 = 3) then none else
            if q_65.1 = 0 then
              some (q_65.2.1, q_65.2.2)
            else
              some ((-8), q_65.2.2))
          else
            if x1 = 5 then
              (f_X9_control N σ x2 x3).bind (fun (q_79 : Nat × Int32 × gSt) =>
              if ¬ (q_79.1 = 0 ∨ q_79.1 = 1 ∨ q_79.1 = 2 ∨ q_79.1 = 3) then none else
              if q_79.1 = 0 then
                some (q_79.2.1, q_79.2.2)
              else
                some ((-8), q_79.2.2))
            else
              (f_X9_punch N σ x2 x3 x4).bind (fun (q_90 : Nat × Int32 × gSt) =>
              if ¬ (q_90.1 = 0 ∨ q_90.1 = 1 ∨ q_90.1 = 2 ∨ q_90.1 = 3) then none else
              if q_90.1 = 0 then
                some (q_90.2.1, q_90.2.2)
              else
                some ((-8), q_90.2.2))
abbrev rmL_does : Room := { frames := 9, cells := 4, slots := 24, locals := 164 }
theorem kd_L_does : yL_does.cls ≠ "java/lang/invoke/MethodHandle" ∧ yL_does.cls ≠ "java/lang/invoke/VarHandle" ∧ (parseMethodDescriptor yL_does.desc).map (fun d => d.parameters.length) = some 5 := by decide +kernel
set_option maxRecDepth 100000 in
set_option maxHeartbeats 4000000 in
theorem c_L_does (l : Launch) (D : va_G) (a : Nat → Nat) (cI : ClassId) (hj : g_Inj 65 a) (hlt : l.stackTraces = false) (sa : Nat → Nat) (N : Nat) (σ : gSt) (x1 x2 x3 x4 : Int32) (out : Int32 × gSt) (hh : h_does N σ x1 x2 x3 x4 = some out) : Met l yL_does (Cond.codeWith yL_does cL_does 6 (some .int) [(0, 93, 94, 33), (0, 93, 99, 35), (0, 93, 104, 37)] :: gW) rmL_does (g_PcL D a (gE a cI σ) [(cI, .int)] sa [.ref (a 0), .int x1, .int x2, .int x3, .int x4]) (g_Qi 65 D a (gE a cI out.2) out.1) 4 24 (g_Own 65 a) := by
  refine g_metL (by decide) hj (Nat.le_of_ble_eq_true rfl) ?_
  intro p e s m args below meth c Q ls F X htab hl hI hq
  have hx := F.1.1
  have hb := F.1.2.1
  have hl : lv_has ls 6 [(0, .ref (a 0)), (1, .int x1), (2, .int x2), (3, .int x3), (4, .int x4)] := hl
  have h := hh
  unfold h_does at h
  refine lv_iload_n hx hb dL_does_0 rfl (lv_at hl 1 rfl) ?_
  refine lv_if_ne (tgt := 15) hx hb dL_does_1 (by decide) (fun c_1 => ?_) (fun c_1 => ?_)
  · have h := (if_neg c_1).symm.trans h
    refine lv_iload_n hx hb dL_does_15 rfl (lv_at hl 1 rfl) ?_
    refine lv_iconst (v := 1) hx hb dL_does_16 (by decide) ?_
    refine lv_icmp_ne (tgt := 29) hx hb dL_does_17 (by decide) (fun c_17 => ?_) (fun c_17 => ?_)
    · have h := (if_neg c_17).symm.trans h
      refine lv_iload_n hx hb dL_does_29 rfl (lv_at hl 1 rfl) ?_
      refine lv_iconst (v := 2) hx hb dL_does_30 (by decide) ?_
      refine lv_icmp_ne (tgt := 43) hx hb dL_does_31 (by decide) (fun c_31 => ?_) (fun c_31 => ?_)
      · have h := (if_neg c_31).symm.trans h
        refine lv_iload_n hx hb dL_does_43 rfl (lv_at hl 1 rfl) ?_
        refine lv_iconst (v := 3) hx hb dL_does_44 (by decide) ?_
        refine lv_icmp_ne (tgt := 57) hx hb dL_does_45 (by decide) (fun c_45 => ?_) (fun c_45 => ?_)
        · have h := (if_neg c_45).symm.trans h
          refine lv_iload_n hx hb dL_does_57 rfl (lv_at hl 1 rfl) ?_
          refine lv_iconst (v := 4) hx hb dL_does_58 (by decide) ?_
          refine lv_icmp_ne (tgt := 71) hx hb dL_does_59 (by decide) (fun c_59 => ?_) (fun c_59 => ?_)
          · have h := (if_neg c_59).symm.trans h
            refine lv_iload_n hx hb dL_does_71 rfl (lv_at hl 1 rfl) ?_
            refine lv_iconst (v := 5) hx hb dL_does_72 (by decide) ?_
            refine lv_icmp_ne (tgt := 85) hx hb dL_does_73 (by decide) (fun c_73 => ?_) (fun c_73 => ?_)
            · have h := (if_neg c_73).symm.trans h
              refine lv_aload_n hx hb dL_does_85 rfl (lv_at hl 0 rfl) ?_
              refine lv_iload_n hx hb dL_does_86 rfl (lv_at hl 2 rfl) ?_
              refine lv_iload_n hx hb dL_does_87 rfl (lv_at hl 3 rfl) ?_
              refine lv_iload hx hb dL_does_88 (lv_at hl 4 rfl) ?_
              obtain ⟨q_90, e_90, h⟩ := gBind_in h
              obtain ⟨g_90, h⟩ := g_guard h
              have hM_90 := c_X9_punch l D a cI F.2.2 hlt sa N σ x2 x3 x4 q_90 e_90
              refine g_callXWi (σ' := q_90.2.2) (k := q_90.1) (r := q_90.2.1) (As := [.int x2, .int x3, .int x4]) (rest := []) F X hI hM_90 kb_X9_punch ki_X9_punch ks_X9_punch km_L_30 ⟨(Nat.le_of_ble_eq_true rfl), (Nat.le_of_ble_eq_true rfl), rfl, rfl⟩ hl.1 rfl (Nat.le_of_ble_eq_true rfl) ⟨(Nat.le_of_ble_eq_true rfl), (Nat.le_of_ble_eq_true rfl)⟩ dL_does_90 (fun H locs ce q9 hk hI h1 h2 h3 => ?_) (fun H locs hk hI => ?_)
              · have h := (if_neg hk).symm.trans h
                have h := Option.some.inj h
                subst h
                rcases Decidable.not_not.mp g_90 with h0 | h0 | h0 | h0
                · exact absurd h0 hk
                · rw [h0] at h3
                  refine vx_catch (own := RL) (name := "java/lang/IndexOutOfBoundsException") F.1.2.2.2.1 [] ⟨0, 93, 94, 33⟩ [⟨0, 93, 99, 35⟩, ⟨0, 93, 104, 37⟩] htab (fun _ h => nomatch h) rfl (by decide) (F.1.2.2.2.2 _ kl_L_33) (va_Nw.use rfl X.1.2.2.2.2.1) h1 h2 h3 ?_
                  refine lv_astore (lv' := [(5, .ref q9), (0, .ref (a 0)), (1, .int x1), (2, .int x2), (3, .int x3), (4, .int x4)]) hx hb dL_does_94 hl (by decide) rfl (fun ls hl => ?_)
                  refine lv_bipush (v := -8) hx hb dL_does_96 (by decide) ?_
                  exact hq _ _ _ _ _ _ (Nat.le_of_ble_eq_true rfl) (Nat.le_of_ble_eq_true rfl) hI dL_does_98
                · rw [h0] at h3
                  refine vx_catch (own := RL) (name := "java/lang/IllegalArgumentException") F.1.2.2.2.1 [⟨0, 93, 94, 33⟩] ⟨0, 93, 99, 35⟩ [⟨0, 93, 104, 37⟩] htab (List.forall_mem_cons.mpr ⟨Or.inr ⟨by decide, _, F.1.2.2.2.2 _ kl_L_33, X.2.2.1⟩, (fun _ h => nomatch h)⟩) rfl (by decide) (F.1.2.2.2.2 _ kl_L_35) (va_Nw.use rfl X.1.2.2.2.2.2.1) h1 h2 h3 ?_
                  refine lv_astore (lv' := [(5, .ref q9), (0, .ref (a 0)), (1, .int x1), (2, .int x2), (3, .int x3), (4, .int x4)]) hx hb dL_does_99 hl (by decide) rfl (fun ls hl => ?_)
                  refine lv_bipush (v := -8) hx hb dL_does_101 (by decide) ?_
                  exact hq _ _ _ _ _ _ (Nat.le_of_ble_eq_true rfl) (Nat.le_of_ble_eq_true rfl) hI dL_does_103
                · rw [h0] at h3
                  refine vx_catch (own := RL) (name := "java/lang/IllegalStateException") F.1.2.2.2.1 [⟨0, 93, 94, 33⟩, ⟨0, 93, 99, 35⟩] ⟨0, 93, 104, 37⟩ [] htab (List.forall_mem_cons.mpr ⟨Or.inr ⟨by decide, _, F.1.2.2.2.2 _ kl_L_33, X.2.2.2.1⟩, (List.forall_mem_cons.mpr ⟨Or.inr ⟨by decide, _, F.1.2.2.2.2 _ kl_L_35, X.2.2.2.2.1⟩, (fun _ h => nomatch h)⟩)⟩) rfl (by decide) (F.1.2.2.2.2 _ kl_L_37) (va_Nw.use rfl X.1.2.2.2.2.2.2.1) h1 h2 h3 ?_
                  refine lv_astore (lv' := [(5, .ref q9), (0, .ref (a 0)), (1, .int x1), (2, .int x2), (3, .int x3), (4, .int x4)]) hx hb dL_does_104 hl (by decide) rfl (fun ls hl => ?_)
                  refine lv_bipush (v := -8) hx hb dL_does_106 (by decide) ?_
                  exact hq _ _ _ _ _ _ (Nat.le_of_ble_eq_true rfl) (Nat.le_of_ble_eq_true rfl) hI dL_does_108
              have h := (if_pos hk).symm.trans h
              have h := Option.some.inj h
              subst h
              exact hq _ _ _ _ _ _ (Nat.le_of_ble_eq_true rfl) (Nat.le_of_ble_eq_true rfl) hI dL_does_93
            · have h := (if_pos c_73).symm.trans h
              refine lv_aload_n hx hb dL_does_76 rfl (lv_at hl 0 rfl) ?_
              refine lv_iload_n hx hb dL_does_77 rfl (lv_at hl 2 rfl) ?_
              refine lv_iload_n hx hb dL_does_78 rfl (lv_at hl 3 rfl) ?_
              obtain ⟨q_79, e_79, h⟩ := gBind_in h
              obtain ⟨g_79, h⟩ := g_guard h
              have hM_79 := c_X9_control l D a cI F.2.2 hlt sa N σ x2 x3 q_79 e_79
              refine g_callXWi (σ' := q_79.2.2) (k := q_79.1) (r := q_79.2.1) (As := [.int x2, .int x3]) (rest := []) F X hI hM_79 kb_X9_control ki_X9_control ks_X9_control km_L_27 ⟨(Nat.le_of_ble_eq_true rfl), (Nat.le_of_ble_eq_true rfl), rfl, rfl⟩ hl.1 rfl (Nat.le_of_ble_eq_true rfl) ⟨(Nat.le_of_ble_eq_true rfl), (Nat.le_of_ble_eq_true rfl)⟩ dL_does_79 (fun H locs ce q9 hk hI h1 h2 h3 => ?_) (fun H locs hk hI => ?_)
              · have h := (if_neg hk).symm.trans h
                have h := Option.some.inj h
                subst h
                rcases Decidable.not_not.mp g_79 with h0 | h0 | h0 | h0
                · exact absurd h0 hk
                · rw [h0] at h3
                  refine vx_catch (own := RL) (name := "java/lang/IndexOutOfBoundsException") F.1.2.2.2.1 [] ⟨0, 93, 94, 33⟩ [⟨0, 93, 99, 35⟩, ⟨0, 93, 104, 37⟩] htab (fun _ h => nomatch h) rfl (by decide) (F.1.2.2.2.2 _ kl_L_33) (va_Nw.use rfl X.1.2.2.2.2.1) h1 h2 h3 ?_
                  refine lv_astore (lv' := [(5, .ref q9), (0, .ref (a 0)), (1, .int x1), (2, .int x2), (3, .int x3), (4, .int x4)]) hx hb dL_does_94 hl (by decide) rfl (fun ls hl => ?_)
                  refine lv_bipush (v := -8) hx hb dL_does_96 (by decide) ?_
                  exact hq _ _ _ _ _ _ (Nat.le_of_ble_eq_true rfl) (Nat.le_of_ble_eq_true rfl) hI dL_does_98
                · rw [h0] at h3
                  refine vx_catch (own := RL) (name := "java/lang/IllegalArgumentException") F.1.2.2.2.1 [⟨0, 93, 94, 33⟩] ⟨0, 93, 99, 35⟩ [⟨0, 93, 104, 37⟩] htab (List.forall_mem_cons.mpr ⟨Or.inr ⟨by decide, _, F.1.2.2.2.2 _ kl_L_33, X.2.2.1⟩, (fun _ h => nomatch h)⟩) rfl (by decide) (F.1.2.2.2.2 _ kl_L_35) (va_Nw.use rfl X.1.2.2.2.2.2.1) h1 h2 h3 ?_
                  refine lv_astore (lv' := [(5, .ref q9), (0, .ref (a 0)), (1, .int x1), (2, .int x2), (3, .int x3), (4, .int x4)]) hx hb dL_does_99 hl (by decide) rfl (fun ls hl => ?_)
                  refine lv_bipush (v := -8) hx hb dL_does_101 (by decide) ?_
                  exact hq _ _ _ _ _ _ (Nat.le_of_ble_eq_true rfl) (Nat.le_of_ble_eq_true rfl) hI dL_does_103
                · rw [h0] at h3
                  refine vx_catch (own := RL) (name := "java/lang/IllegalStateException") F.1.2.2.2.1 [⟨0, 93, 94, 33⟩, ⟨0, 93, 99, 35⟩] ⟨0, 93, 104, 37⟩ [] htab (List.forall_mem_cons.mpr ⟨Or.inr ⟨by decide, _, F.1.2.2.2.2 _ kl_L_33, X.2.2.2.1⟩, (List.forall_mem_cons.mpr ⟨Or.inr ⟨by decide, _, F.1.2.2.2.2 _ kl_L_35, X.2.2.2.2.1⟩, (fun _ h => nomatch h)⟩)⟩) rfl (by decide) (F.1.2.2.2.2 _ kl_L_37) (va_Nw.use rfl X.1.2.2.2.2.2.2.1) h1 h2 h3 ?_
                  refine lv_astore (lv' := [(5, .ref q9), (0, .ref (a 0)), (1, .int x1), (2, .int x2), (3, .int x3), (4, .int x4)]) hx hb dL_does_104 hl (by decide) rfl (fun ls hl => ?_)
                  refine lv_bipush (v := -8) hx hb dL_does_106 (by decide) ?_
                  exact hq _ _ _ _ _ _ (Nat.le_of_ble_eq_true rfl) (Nat.le_of_ble_eq_true rfl) hI dL_does_108
              have h := (if_pos hk).symm.trans h
              refine lv_goto (tgt := 93) hx hb dL_does_82 (by decide) ?_
              have h := Option.some.inj h
              subst h
              exact hq _ _ _ _ _ _ (Nat.le_of_ble_eq_true rfl) (Nat.le_of_ble_eq_true rfl) hI dL_does_93
          · have h := (if_pos c_59).symm.trans h
            refine lv_aload_n hx hb dL_does_62 rfl (lv_at hl 0 rfl) ?_
            refine lv_iload_n hx hb dL_does_63 rfl (lv_at hl 2 rfl) ?_
            refine lv_iload_n hx hb dL_does_64 rfl (lv_at hl 3 rfl) ?_
            obtain ⟨q_65, e_65, h⟩ := gBind_in h
            obtain ⟨g_65, h⟩ := g_guard h
            have hM_65 := c_X9_draw l D a cI F.2.2 hlt sa N σ x2 x3 q_65 e_65
            refine g_callXWi (σ' := q_65.2.2) (k := q_65.1) (r := q_65.2.1) (As := [.int x2, .int x3]) (rest := []) F X hI hM_65 kb_X9_draw ki_X9_draw ks_X9_draw km_L_24 ⟨(Nat.le_of_ble_eq_true rfl), (Nat.le_of_ble_eq_true rfl), rfl, rfl⟩ hl.1 rfl (Nat.le_of_ble_eq_true rfl) ⟨(Nat.le_of_ble_eq_true rfl), (Nat.le_of_ble_eq_true rfl)⟩ dL_does_65 (fun H locs ce q9 hk hI h1 h2 h3 => ?_) (fun H locs hk hI => ?_)
            · have h := (if_neg hk).symm.trans h
              have h := Option.some.inj h
              subst h
              rcases Decidable.not_not.mp g_65 with h0 | h0 | h0 | h0
              · exact absurd h0 hk
              · rw [h0] at h3
                refine vx_catch (own := RL) (name := "java/lang/IndexOutOfBoundsException") F.1.2.2.2.1 [] ⟨0, 93, 94, 33⟩ [⟨0, 93, 99, 35⟩, ⟨0, 93, 104, 37⟩] htab (fun _ h => nomatch h) rfl (by decide) (F.1.2.2.2.2 _ kl_L_33) (va_Nw.use rfl X.1.2.2.2.2.1) h1 h2 h3 ?_
                refine lv_astore (lv' := [(5, .ref q9), (0, .ref (a 0)), (1, .int x1), (2, .int x2), (3, .int x3), (4, .int x4)]) hx hb dL_does_94 hl (by decide) rfl (fun ls hl => ?_)
                refine lv_bipush (v := -8) hx hb dL_does_96 (by decide) ?_
                exact hq _ _ _ _ _ _ (Nat.le_of_ble_eq_true rfl) (Nat.le_of_ble_eq_true rfl) hI dL_does_98
              · rw [h0] at h3
                refine vx_catch (own := RL) (name := "java/lang/IllegalArgumentException") F.1.2.2.2.1 [⟨0, 93, 94, 33⟩] ⟨0, 93, 99, 35⟩ [⟨0, 93, 104, 37⟩] htab (List.forall_mem_cons.mpr ⟨Or.inr ⟨by decide, _, F.1.2.2.2.2 _ kl_L_33, X.2.2.1⟩, (fun _ h => nomatch h)⟩) rfl (by decide) (F.1.2.2.2.2 _ kl_L_35) (va_Nw.use rfl X.1.2.2.2.2.2.1) h1 h2 h3 ?_
                refine lv_astore (lv' := [(5, .ref q9), (0, .ref (a 0)), (1, .int x1), (2, .int x2), (3, .int x3), (4, .int x4)]) hx hb dL_does_99 hl (by decide) rfl (fun ls hl => ?_)
                refine lv_bipush (v := -8) hx hb dL_does_101 (by decide) ?_
                exact hq _ _ _ _ _ _ (Nat.le_of_ble_eq_true rfl) (Nat.le_of_ble_eq_true rfl) hI dL_does_103
              · rw [h0] at h3
                refine vx_catch (own := RL) (name := "java/lang/IllegalStateException") F.1.2.2.2.1 [⟨0, 93, 94, 33⟩, ⟨0, 93, 99, 35⟩] ⟨0, 93, 104, 37⟩ [] htab (List.forall_mem_cons.mpr ⟨Or.inr ⟨by decide, _, F.1.2.2.2.2 _ kl_L_33, X.2.2.2.1⟩, (List.forall_mem_cons.mpr ⟨Or.inr ⟨by decide, _, F.1.2.2.2.2 _ kl_L_35, X.2.2.2.2.1⟩, (fun _ h => nomatch h)⟩)⟩) rfl (by decide) (F.1.2.2.2.2 _ kl_L_37) (va_Nw.use rfl X.1.2.2.2.2.2.2.1) h1 h2 h3 ?_
                refine lv_astore (lv' := [(5, .ref q9), (0, .ref (a 0)), (1, .int x1), (2, .int x2), (3, .int x3), (4, .int x4)]) hx hb dL_does_104 hl (by decide) rfl (fun ls hl => ?_)
                refine lv_bipush (v := -8) hx hb dL_does_106 (by decide) ?_
                exact hq _ _ _ _ _ _ (Nat.le_of_ble_eq_true rfl) (Nat.le_of_ble_eq_true rfl) hI dL_does_108
            have h := (if_pos hk).symm.trans h
            refine lv_goto (tgt := 93) hx hb dL_does_68 (by decide) ?_
            have h := Option.some.inj h
            subst h
            exact hq _ _ _ _ _ _ (Nat.le_of_ble_eq_true rfl) (Nat.le_of_ble_eq_true rfl) hI dL_does_93
        · have h := (if_pos c_45).symm.trans h
          refine lv_aload_n hx hb dL_does_48 rfl (lv_at hl 0 rfl) ?_
          refine lv_iload_n hx hb dL_does_49 rfl (lv_at hl 2 rfl) ?_
          refine lv_iload_n hx hb dL_does_50 rfl (lv_at hl 3 rfl) ?_
          obtain ⟨q_51, e_51, h⟩ := gBind_in h
          obtain ⟨g_51, h⟩ := g_guard h
          have hM_51 := c_X9_enter l D a cI F.2.2 hlt sa σ x2 x3
          rw [Option.some.inj e_51] at hM_51
          refine g_callXWi (σ' := q_51.2.2) (k := q_51.1) (r := q_51.2.1) (As := [.int x2, .int x3]) (rest := []) F X hI hM_51 kb_X9_enter ki_X9_enter ks_X9_enter km_L_21 ⟨(Nat.le_of_ble_eq_true rfl), (Nat.le_of_ble_eq_true rfl), rfl, rfl⟩ hl.1 rfl (Nat.le_of_ble_eq_true rfl) ⟨(Nat.le_of_ble_eq_true rfl), (Nat.le_of_ble_eq_true rfl)⟩ dL_does_51 (fun H locs ce q9 hk hI h1 h2 h3 => ?_) (fun H locs hk hI => ?_)
          · have h := (if_neg hk).symm.trans h
            have h := Option.some.inj h
            subst h
            rcases Decidable.not_not.mp g_51 with h0 | h0 | h0 | h0
            · exact absurd h0 hk
            · rw [h0] at h3
              refine vx_catch (own := RL) (name := "java/lang/IndexOutOfBoundsException") F.1.2.2.2.1 [] ⟨0, 93, 94, 33⟩ [⟨0, 93, 99, 35⟩, ⟨0, 93, 104, 37⟩] htab (fun _ h => nomatch h) rfl (by decide) (F.1.2.2.2.2 _ kl_L_33) (va_Nw.use rfl X.1.2.2.2.2.1) h1 h2 h3 ?_
              refine lv_astore (lv' := [(5, .ref q9), (0, .ref (a 0)), (1, .int x1), (2, .int x2), (3, .int x3), (4, .int x4)]) hx hb dL_does_94 hl (by decide) rfl (fun ls hl => ?_)
              refine lv_bipush (v := -8) hx hb dL_does_96 (by decide) ?_
              exact hq _ _ _ _ _ _ (Nat.le_of_ble_eq_true rfl) (Nat.le_of_ble_eq_true rfl) hI dL_does_98
            · rw [h0] at h3
              refine vx_catch (own := RL) (name := "java/lang/IllegalArgumentException") F.1.2.2.2.1 [⟨0, 93, 94, 33⟩] ⟨0, 93, 99, 35⟩ [⟨0, 93, 104, 37⟩] htab (List.forall_mem_cons.mpr ⟨Or.inr ⟨by decide, _, F.1.2.2.2.2 _ kl_L_33, X.2.2.1⟩, (fun _ h => nomatch h)⟩) rfl (by decide) (F.1.2.2.2.2 _ kl_L_35) (va_Nw.use rfl X.1.2.2.2.2.2.1) h1 h2 h3 ?_
              refine lv_astore (lv' := [(5, .ref q9), (0, .ref (a 0)), (1, .int x1), (2, .int x2), (3, .int x3), (4, .int x4)]) hx hb dL_does_99 hl (by decide) rfl (fun ls hl => ?_)
              refine lv_bipush (v := -8) hx hb dL_does_101 (by decide) ?_
              exact hq _ _ _ _ _ _ (Nat.le_of_ble_eq_true rfl) (Nat.le_of_ble_eq_true rfl) hI dL_does_103
            · rw [h0] at h3
              refine vx_catch (own := RL) (name := "java/lang/IllegalStateException") F.1.2.2.2.1 [⟨0, 93, 94, 33⟩, ⟨0, 93, 99, 35⟩] ⟨0, 93, 104, 37⟩ [] htab (List.forall_mem_cons.mpr ⟨Or.inr ⟨by decide, _, F.1.2.2.2.2 _ kl_L_33, X.2.2.2.1⟩, (List.forall_mem_cons.mpr ⟨Or.inr ⟨by decide, _, F.1.2.2.2.2 _ kl_L_35, X.2.2.2.2.1⟩, (fun _ h => nomatch h)⟩)⟩) rfl (by decide) (F.1.2.2.2.2 _ kl_L_37) (va_Nw.use rfl X.1.2.2.2.2.2.2.1) h1 h2 h3 ?_
              refine lv_astore (lv' := [(5, .ref q9), (0, .ref (a 0)), (1, .int x1), (2, .int x2), (3, .int x3), (4, .int x4)]) hx hb dL_does_104 hl (by decide) rfl (fun ls hl => ?_)
              refine lv_bipush (v := -8) hx hb dL_does_106 (by decide) ?_
              exact hq _ _ _ _ _ _ (Nat.le_of_ble_eq_true rfl) (Nat.le_of_ble_eq_true rfl) hI dL_does_108
          have h := (if_pos hk).symm.trans h
          refine lv_goto (tgt := 93) hx hb dL_does_54 (by decide) ?_
          have h := Option.some.inj h
          subst h
          exact hq _ _ _ _ _ _ (Nat.le_of_ble_eq_true rfl) (Nat.le_of_ble_eq_true rfl) hI dL_does_93
      · have h := (if_pos c_31).symm.trans h
        refine lv_aload_n hx hb dL_does_34 rfl (lv_at hl 0 rfl) ?_
        refine lv_iload_n hx hb dL_does_35 rfl (lv_at hl 2 rfl) ?_
        refine lv_iload_n hx hb dL_does_36 rfl (lv_at hl 3 rfl) ?_
        obtain ⟨q_37, e_37, h⟩ := gBind_in h
        obtain ⟨g_37, h⟩ := g_guard h
        have hM_37 := c_X9_arrange l D a cI F.2.2 hlt sa N σ x2 x3 q_37 e_37
        refine g_callXWi (σ' := q_37.2.2) (k := q_37.1) (r := q_37.2.1) (As := [.int x2, .int x3]) (rest := []) F X hI hM_37 kb_X9_arrange ki_X9_arrange ks_X9_arrange km_L_18 ⟨(Nat.le_of_ble_eq_true rfl), (Nat.le_of_ble_eq_true rfl), rfl, rfl⟩ hl.1 rfl (Nat.le_of_ble_eq_true rfl) ⟨(Nat.le_of_ble_eq_true rfl), (Nat.le_of_ble_eq_true rfl)⟩ dL_does_37 (fun H locs ce q9 hk hI h1 h2 h3 => ?_) (fun H locs hk hI => ?_)
        · have h := (if_neg hk).symm.trans h
          have h := Option.some.inj h
          subst h
          rcases Decidable.not_not.mp g_37 with h0 | h0 | h0 | h0
          · exact absurd h0 hk
          · rw [h0] at h3
            refine vx_catch (own := RL) (name := "java/lang/IndexOutOfBoundsException") F.1.2.2.2.1 [] ⟨0, 93, 94, 33⟩ [⟨0, 93, 99, 35⟩, ⟨0, 93, 104, 37⟩] htab (fun _ h => nomatch h) rfl (by decide) (F.1.2.2.2.2 _ kl_L_33) (va_Nw.use rfl X.1.2.2.2.2.1) h1 h2 h3 ?_
            refine lv_astore (lv' := [(5, .ref q9), (0, .ref (a 0)), (1, .int x1), (2, .int x2), (3, .int x3), (4, .int x4)]) hx hb dL_does_94 hl (by decide) rfl (fun ls hl => ?_)
            refine lv_bipush (v := -8) hx hb dL_does_96 (by decide) ?_
            exact hq _ _ _ _ _ _ (Nat.le_of_ble_eq_true rfl) (Nat.le_of_ble_eq_true rfl) hI dL_does_98
          · rw [h0] at h3
            refine vx_catch (own := RL) (name := "java/lang/IllegalArgumentException") F.1.2.2.2.1 [⟨0, 93, 94, 33⟩] ⟨0, 93, 99, 35⟩ [⟨0, 93, 104, 37⟩] htab (List.forall_mem_cons.mpr ⟨Or.inr ⟨by decide, _, F.1.2.2.2.2 _ kl_L_33, X.2.2.1⟩, (fun _ h => nomatch h)⟩) rfl (by decide) (F.1.2.2.2.2 _ kl_L_35) (va_Nw.use rfl X.1.2.2.2.2.2.1) h1 h2 h3 ?_
            refine lv_astore (lv' := [(5, .ref q9), (0, .ref (a 0)), (1, .int x1), (2, .int x2), (3, .int x3), (4, .int x4)]) hx hb dL_does_99 hl (by decide) rfl (fun ls hl => ?_)
            refine lv_bipush (v := -8) hx hb dL_does_101 (by decide) ?_
            exact hq _ _ _ _ _ _ (Nat.le_of_ble_eq_true rfl) (Nat.le_of_ble_eq_true rfl) hI dL_does_103
          · rw [h0] at h3
            refine vx_catch (own := RL) (name := "java/lang/IllegalStateException") F.1.2.2.2.1 [⟨0, 93, 94, 33⟩, ⟨0, 93, 99, 35⟩] ⟨0, 93, 104, 37⟩ [] htab (List.forall_mem_cons.mpr ⟨Or.inr ⟨by decide, _, F.1.2.2.2.2 _ kl_L_33, X.2.2.2.1⟩, (List.forall_mem_cons.mpr ⟨Or.inr ⟨by decide, _, F.1.2.2.2.2 _ kl_L_35, X.2.2.2.2.1⟩, (fun _ h => nomatch h)⟩)⟩) rfl (by decide) (F.1.2.2.2.2 _ kl_L_37) (va_Nw.use rfl X.1.2.2.2.2.2.2.1) h1 h2 h3 ?_
            refine lv_astore (lv' := [(5, .ref q9), (0, .ref (a 0)), (1, .int x1), (2, .int x2), (3, .int x3), (4, .int x4)]) hx hb dL_does_104 hl (by decide) rfl (fun ls hl => ?_)
            refine lv_bipush (v := -8) hx hb dL_does_106 (by decide) ?_
            exact hq _ _ _ _ _ _ (Nat.le_of_ble_eq_true rfl) (Nat.le_of_ble_eq_true rfl) hI dL_does_108
        have h := (if_pos hk).symm.trans h
        refine lv_goto (tgt := 93) hx hb dL_does_40 (by decide) ?_
        have h := Option.some.inj h
        subst h
        exact hq _ _ _ _ _ _ (Nat.le_of_ble_eq_true rfl) (Nat.le_of_ble_eq_true rfl) hI dL_does_93
    · have h := (if_pos c_17).symm.trans h
      refine lv_aload_n hx hb dL_does_20 rfl (lv_at hl 0 rfl) ?_
      refine lv_iload_n hx hb dL_does_21 rfl (lv_at hl 2 rfl) ?_
      refine lv_iload_n hx hb dL_does_22 rfl (lv_at hl 3 rfl) ?_
      obtain ⟨q_23, e_23, h⟩ := gBind_in h
      obtain ⟨g_23, h⟩ := g_guard h
      have hM_23 := c_X9_visit l D a cI F.2.2 hlt sa N σ x2 x3 q_23 e_23
      refine g_callXWi (σ' := q_23.2.2) (k := q_23.1) (r := q_23.2.1) (As := [.int x2, .int x3]) (rest := []) F X hI hM_23 kb_X9_visit ki_X9_visit ks_X9_visit km_L_14 ⟨(Nat.le_of_ble_eq_true rfl), (Nat.le_of_ble_eq_true rfl), rfl, rfl⟩ hl.1 rfl (Nat.le_of_ble_eq_true rfl) ⟨(Nat.le_of_ble_eq_true rfl), (Nat.le_of_ble_eq_true rfl)⟩ dL_does_23 (fun H locs ce q9 hk hI h1 h2 h3 => ?_) (fun H locs hk hI => ?_)
      · have h := (if_neg hk).symm.trans h
        have h := Option.some.inj h
        subst h
        rcases Decidable.not_not.mp g_23 with h0 | h0 | h0 | h0
        · exact absurd h0 hk
        · rw [h0] at h3
          refine vx_catch (own := RL) (name := "java/lang/IndexOutOfBoundsException") F.1.2.2.2.1 [] ⟨0, 93, 94, 33⟩ [⟨0, 93, 99, 35⟩, ⟨0, 93, 104, 37⟩] htab (fun _ h => nomatch h) rfl (by decide) (F.1.2.2.2.2 _ kl_L_33) (va_Nw.use rfl X.1.2.2.2.2.1) h1 h2 h3 ?_
          refine lv_astore (lv' := [(5, .ref q9), (0, .ref (a 0)), (1, .int x1), (2, .int x2), (3, .int x3), (4, .int x4)]) hx hb dL_does_94 hl (by decide) rfl (fun ls hl => ?_)
          refine lv_bipush (v := -8) hx hb dL_does_96 (by decide) ?_
          exact hq _ _ _ _ _ _ (Nat.le_of_ble_eq_true rfl) (Nat.le_of_ble_eq_true rfl) hI dL_does_98
        · rw [h0] at h3
          refine vx_catch (own := RL) (name := "java/lang/IllegalArgumentException") F.1.2.2.2.1 [⟨0, 93, 94, 33⟩] ⟨0, 93, 99, 35⟩ [⟨0, 93, 104, 37⟩] htab (List.forall_mem_cons.mpr ⟨Or.inr ⟨by decide, _, F.1.2.2.2.2 _ kl_L_33, X.2.2.1⟩, (fun _ h => nomatch h)⟩) rfl (by decide) (F.1.2.2.2.2 _ kl_L_35) (va_Nw.use rfl X.1.2.2.2.2.2.1) h1 h2 h3 ?_
          refine lv_astore (lv' := [(5, .ref q9), (0, .ref (a 0)), (1, .int x1), (2, .int x2), (3, .int x3), (4, .int x4)]) hx hb dL_does_99 hl (by decide) rfl (fun ls hl => ?_)
          refine lv_bipush (v := -8) hx hb dL_does_101 (by decide) ?_
          exact hq _ _ _ _ _ _ (Nat.le_of_ble_eq_true rfl) (Nat.le_of_ble_eq_true rfl) hI dL_does_103
        · rw [h0] at h3
          refine vx_catch (own := RL) (name := "java/lang/IllegalStateException") F.1.2.2.2.1 [⟨0, 93, 94, 33⟩, ⟨0, 93, 99, 35⟩] ⟨0, 93, 104, 37⟩ [] htab (List.forall_mem_cons.mpr ⟨Or.inr ⟨by decide, _, F.1.2.2.2.2 _ kl_L_33, X.2.2.2.1⟩, (List.forall_mem_cons.mpr ⟨Or.inr ⟨by decide, _, F.1.2.2.2.2 _ kl_L_35, X.2.2.2.2.1⟩, (fun _ h => nomatch h)⟩)⟩) rfl (by decide) (F.1.2.2.2.2 _ kl_L_37) (va_Nw.use rfl X.1.2.2.2.2.2.2.1) h1 h2 h3 ?_
          refine lv_astore (lv' := [(5, .ref q9), (0, .ref (a 0)), (1, .int x1), (2, .int x2), (3, .int x3), (4, .int x4)]) hx hb dL_does_104 hl (by decide) rfl (fun ls hl => ?_)
          refine lv_bipush (v := -8) hx hb dL_does_106 (by decide) ?_
          exact hq _ _ _ _ _ _ (Nat.le_of_ble_eq_true rfl) (Nat.le_of_ble_eq_true rfl) hI dL_does_108
      have h := (if_pos hk).symm.trans h
      refine lv_goto (tgt := 93) hx hb dL_does_26 (by decide) ?_
      have h := Option.some.inj h
      subst h
      exact hq _ _ _ _ _ _ (Nat.le_of_ble_eq_true rfl) (Nat.le_of_ble_eq_true rfl) hI dL_does_93
  · have h := (if_pos c_1).symm.trans h
    refine lv_aload_n hx hb dL_does_4 rfl (lv_at hl 0 rfl) ?_
    refine lv_iload_n hx hb dL_does_5 rfl (lv_at hl 2 rfl) ?_
    refine lv_iload_n hx hb dL_does_6 rfl (lv_at hl 3 rfl) ?_
    refine lv_iload hx hb dL_does_7 (lv_at hl 4 rfl) ?_
    obtain ⟨q_9, e_9, h⟩ := gBind_in h
    obtain ⟨g_9, h⟩ := g_guard h
    have hM_9 := c_X9_setHeight l D a cI F.2.2 hlt sa σ x2 x3 x4
    rw [Option.some.inj e_9] at hM_9
    refine g_callXWi (σ' := q_9.2.2) (k := q_9.1) (r := q_9.2.1) (As := [.int x2, .int x3, .int x4]) (rest := []) F X hI hM_9 kb_X9_setHeight ki_X9_setHeight ks_X9_setHeight km_L_8 ⟨(Nat.le_of_ble_eq_true rfl), (Nat.le_of_ble_eq_true rfl), rfl, rfl⟩ hl.1 rfl (Nat.le_of_ble_eq_true rfl) ⟨(Nat.le_of_ble_eq_true rfl), (Nat.le_of_ble_eq_true rfl)⟩ dL_does_9 (fun H locs ce q9 hk hI h1 h2 h3 => ?_) (fun H locs hk hI => ?_)
    · have h := (if_neg hk).symm.trans h
      have h := Option.some.inj h
      subst h
      rcases Decidable.not_not.mp g_9 with h0 | h0 | h0 | h0
      · exact absurd h0 hk
      · rw [h0] at h3
        refine vx_catch (own := RL) (name := "java/lang/IndexOutOfBoundsException") F.1.2.2.2.1 [] ⟨0, 93, 94, 33⟩ [⟨0, 93, 99, 35⟩, ⟨0, 93, 104, 37⟩] htab (fun _ h => nomatch h) rfl (by decide) (F.1.2.2.2.2 _ kl_L_33) (va_Nw.use rfl X.1.2.2.2.2.1) h1 h2 h3 ?_
        refine lv_astore (lv' := [(5, .ref q9), (0, .ref (a 0)), (1, .int x1), (2, .int x2), (3, .int x3), (4, .int x4)]) hx hb dL_does_94 hl (by decide) rfl (fun ls hl => ?_)
        refine lv_bipush (v := -8) hx hb dL_does_96 (by decide) ?_
        exact hq _ _ _ _ _ _ (Nat.le_of_ble_eq_true rfl) (Nat.le_of_ble_eq_true rfl) hI dL_does_98
      · rw [h0] at h3
        refine vx_catch (own := RL) (name := "java/lang/IllegalArgumentException") F.1.2.2.2.1 [⟨0, 93, 94, 33⟩] ⟨0, 93, 99, 35⟩ [⟨0, 93, 104, 37⟩] htab (List.forall_mem_cons.mpr ⟨Or.inr ⟨by decide, _, F.1.2.2.2.2 _ kl_L_33, X.2.2.1⟩, (fun _ h => nomatch h)⟩) rfl (by decide) (F.1.2.2.2.2 _ kl_L_35) (va_Nw.use rfl X.1.2.2.2.2.2.1) h1 h2 h3 ?_
        refine lv_astore (lv' := [(5, .ref q9), (0, .ref (a 0)), (1, .int x1), (2, .int x2), (3, .int x3), (4, .int x4)]) hx hb dL_does_99 hl (by decide) rfl (fun ls hl => ?_)
        refine lv_bipush (v := -8) hx hb dL_does_101 (by decide) ?_
        exact hq _ _ _ _ _ _ (Nat.le_of_ble_eq_true rfl) (Nat.le_of_ble_eq_true rfl) hI dL_does_103
      · rw [h0] at h3
        refine vx_catch (own := RL) (name := "java/lang/IllegalStateException") F.1.2.2.2.1 [⟨0, 93, 94, 33⟩, ⟨0, 93, 99, 35⟩] ⟨0, 93, 104, 37⟩ [] htab (List.forall_mem_cons.mpr ⟨Or.inr ⟨by decide, _, F.1.2.2.2.2 _ kl_L_33, X.2.2.2.1⟩, (List.forall_mem_cons.mpr ⟨Or.inr ⟨by decide, _, F.1.2.2.2.2 _ kl_L_35, X.2.2.2.2.1⟩, (fun _ h => nomatch h)⟩)⟩) rfl (by decide) (F.1.2.2.2.2 _ kl_L_37) (va_Nw.use rfl X.1.2.2.2.2.2.2.1) h1 h2 h3 ?_
        refine lv_astore (lv' := [(5, .ref q9), (0, .ref (a 0)), (1, .int x1), (2, .int x2), (3, .int x3), (4, .int x4)]) hx hb dL_does_104 hl (by decide) rfl (fun ls hl => ?_)
        refine lv_bipush (v := -8) hx hb dL_does_106 (by decide) ?_
        exact hq _ _ _ _ _ _ (Nat.le_of_ble_eq_true rfl) (Nat.le_of_ble_eq_true rfl) hI dL_does_108
    have h := (if_pos hk).symm.trans h
    refine lv_goto (tgt := 93) hx hb dL_does_12 (by decide) ?_
    have h := Option.some.inj h
    subst h
    exact hq _ _ _ _ _ _ (Nat.le_of_ble_eq_true rfl) (Nat.le_of_ble_eq_true rfl) hI dL_does_93
/-- SpurlineLaw.lay: what it does to a club -/
def h_lay (N : Nat) (σ : gSt) (x1 x2 x3 x4 x5 x6 : Int32) : Option (Int32 × gSt) :=
  if x1 = 0 then
    (f_X9_hill N σ x2 x3 x4 x5).bind (fun (q_11 : Nat × Int32 × gSt) =>
    if ¬ (q_11.1 = 0 ∨ q_11.1 = 1 ∨ q_11.1 = 2) then none else
    if q_11.1 = 0 then
      some (q_11.2.1, q_11.2.2)
    else
      some ((-8), q_11.2.2))
  else
    (f_X9_setGround N σ x2 x3 x4 x5 x6).bind (fun (q_26 : Nat × Int32 × gSt) =>
    if ¬ (q_26.1 = 0 ∨ q_26.1 = 1 ∨ q_26.1 = 2) then none else
    if q_26.1 = 0 then
      some (q_26.2.1, q_26.2.2)
    else
      some ((-8), q_26.2.2))
abbrev rmL_lay : Room := { frames := 8, cells := 5, slots := 30, locals := 129 }
theorem kd_L_lay : yL_lay.cls ≠ "java/lang/invoke/MethodHandle" ∧ yL_lay.cls ≠ "java/lang/invoke/VarHandle" ∧ (parseMethodDescriptor yL_lay.desc).map (fun d => d.parameters.length) = some 7 := by decide +kernel
set_option maxRecDepth 100000 in
set_option maxHeartbeats 4000000 in
theorem c_L_lay (l : Launch) (D : va_G) (a : Nat → Nat) (cI : ClassId) (hj : g_Inj 65 a) (hlt : l.stackTraces = false) (sa : Nat → Nat) (N : Nat) (σ : gSt) (x1 x2 x3 x4 x5 x6 : Int32) (out : Int32 × gSt) (hh : h_lay N σ x1 x2 x3 x4 x5 x6 = some out) : Met l yL_lay (Cond.codeWith yL_lay cL_lay 8 (some .int) [(0, 29, 30, 33), (0, 29, 35, 35)] :: gW) rmL_lay (g_PcL D a (gE a cI σ) [(cI, .int)] sa [.ref (a 0), .int x1, .int x2, .int x3, .int x4, .int x5, .int x6]) (g_Qi 65 D a (gE a cI out.2) out.1) 5 30 (g_Own 65 a) := by
  refine g_metL (by decide) hj (Nat.le_of_ble_eq_true rfl) ?_
  intro p e s m args below meth c Q ls F X htab hl hI hq
  have hx := F.1.1
  have hb := F.1.2.1
  have hl : lv_has ls 8 [(0, .ref (a 0)), (1, .int x1), (2, .int x2), (3, .int x3), (4, .int x4), (5, .int x5), (6, .int x6)] := hl
  have h := hh
  unfold h_lay at h
  refine lv_iload_n hx hb dL_lay_0 rfl (lv_at hl 1 rfl) ?_
  refine lv_if_ne (tgt := 17) hx hb dL_lay_1 (by decide) (fun c_1 => ?_) (fun c_1 => ?_)
  · have h := (if_neg c_1).symm.trans h
    refine lv_aload_n hx hb dL_lay_17 rfl (lv_at hl 0 rfl) ?_
    refine lv_iload_n hx hb dL_lay_18 rfl (lv_at hl 2 rfl) ?_
    refine lv_iload_n hx hb dL_lay_19 rfl (lv_at hl 3 rfl) ?_
    refine lv_iload hx hb dL_lay_20 (lv_at hl 4 rfl) ?_
    refine lv_iload hx hb dL_lay_22 (lv_at hl 5 rfl) ?_
    refine lv_iload hx hb dL_lay_24 (lv_at hl 6 rfl) ?_
    obtain ⟨q_26, e_26, h⟩ := gBind_in h
    obtain ⟨g_26, h⟩ := g_guard h
    have hM_26 := c_X9_setGround l D a cI F.2.2 hlt sa N σ x2 x3 x4 x5 x6 q_26 e_26
    refine g_callXWi (σ' := q_26.2.2) (k := q_26.1) (r := q_26.2.1) (As := [.int x2, .int x3, .int x4, .int x5, .int x6]) (rest := []) F X hI hM_26 kb_X9_setGround ki_X9_setGround ks_X9_setGround km_L_43 ⟨(Nat.le_of_ble_eq_true rfl), (Nat.le_of_ble_eq_true rfl), rfl, rfl⟩ hl.1 rfl (Nat.le_of_ble_eq_true rfl) ⟨(Nat.le_of_ble_eq_true rfl), (Nat.le_of_ble_eq_true rfl)⟩ dL_lay_26 (fun H locs ce q9 hk hI h1 h2 h3 => ?_) (fun H locs hk hI => ?_)
    · have h := (if_neg hk).symm.trans h
      have h := Option.some.inj h
      subst h
      rcases Decidable.not_not.mp g_26 with h0 | h0 | h0
      · exact absurd h0 hk
      · rw [h0] at h3
        refine vx_catch (own := RL) (name := "java/lang/IndexOutOfBoundsException") F.1.2.2.2.1 [] ⟨0, 29, 30, 33⟩ [⟨0, 29, 35, 35⟩] htab (fun _ h => nomatch h) rfl (by decide) (F.1.2.2.2.2 _ kl_L_33) (va_Nw.use rfl X.1.2.2.2.2.1) h1 h2 h3 ?_
        refine lv_astore (lv' := [(7, .ref q9), (0, .ref (a 0)), (1, .int x1), (2, .int x2), (3, .int x3), (4, .int x4), (5, .int x5), (6, .int x6)]) hx hb dL_lay_30 hl (by decide) rfl (fun ls hl => ?_)
        refine lv_bipush (v := -8) hx hb dL_lay_32 (by decide) ?_
        exact hq _ _ _ _ _ _ (Nat.le_of_ble_eq_true rfl) (Nat.le_of_ble_eq_true rfl) hI dL_lay_34
      · rw [h0] at h3
        refine vx_catch (own := RL) (name := "java/lang/IllegalArgumentException") F.1.2.2.2.1 [⟨0, 29, 30, 33⟩] ⟨0, 29, 35, 35⟩ [] htab (List.forall_mem_cons.mpr ⟨Or.inr ⟨by decide, _, F.1.2.2.2.2 _ kl_L_33, X.2.2.1⟩, (fun _ h => nomatch h)⟩) rfl (by decide) (F.1.2.2.2.2 _ kl_L_35) (va_Nw.use rfl X.1.2.2.2.2.2.1) h1 h2 h3 ?_
        refine lv_astore (lv' := [(7, .ref q9), (0, .ref (a 0)), (1, .int x1), (2, .int x2), (3, .int x3), (4, .int x4), (5, .int x5), (6, .int x6)]) hx hb dL_lay_35 hl (by decide) rfl (fun ls hl => ?_)
        refine lv_bipush (v := -8) hx hb dL_lay_37 (by decide) ?_
        exact hq _ _ _ _ _ _ (Nat.le_of_ble_eq_true rfl) (Nat.le_of_ble_eq_true rfl) hI dL_lay_39
    have h := (if_pos hk).symm.trans h
    have h := Option.some.inj h
    subst h
    exact hq _ _ _ _ _ _ (Nat.le_of_ble_eq_true rfl) (Nat.le_of_ble_eq_true rfl) hI dL_lay_29
  · have h := (if_pos c_1).symm.trans h
    refine lv_aload_n hx hb dL_lay_4 rfl (lv_at hl 0 rfl) ?_
    refine lv_iload_n hx hb dL_lay_5 rfl (lv_at hl 2 rfl) ?_
    refine lv_iload_n hx hb dL_lay_6 rfl (lv_at hl 3 rfl) ?_
    refine lv_iload hx hb dL_lay_7 (lv_at hl 4 rfl) ?_
    refine lv_iload hx hb dL_lay_9 (lv_at hl 5 rfl) ?_
    obtain ⟨q_11, e_11, h⟩ := gBind_in h
    obtain ⟨g_11, h⟩ := g_guard h
    have hM_11 := c_X9_hill l D a cI F.2.2 hlt sa N σ x2 x3 x4 x5 q_11 e_11
    refine g_callXWi (σ' := q_11.2.2) (k := q_11.1) (r := q_11.2.1) (As := [.int x2, .int x3, .int x4, .int x5]) (rest := []) F X hI hM_11 kb_X9_hill ki_X9_hill ks_X9_hill km_L_39 ⟨(Nat.le_of_ble_eq_true rfl), (Nat.le_of_ble_eq_true rfl), rfl, rfl⟩ hl.1 rfl (Nat.le_of_ble_eq_true rfl) ⟨(Nat.le_of_ble_eq_true rfl), (Nat.le_of_ble_eq_true rfl)⟩ dL_lay_11 (fun H locs ce q9 hk hI h1 h2 h3 => ?_) (fun H locs hk hI => ?_)
    · have h := (if_neg hk).symm.trans h
      have h := Option.some.inj h
      subst h
      rcases Decidable.not_not.mp g_11 with h0 | h0 | h0
      · exact absurd h0 hk
      · rw [h0] at h3
        refine vx_catch (own := RL) (name := "java/lang/IndexOutOfBoundsException") F.1.2.2.2.1 [] ⟨0, 29, 30, 33⟩ [⟨0, 29, 35, 35⟩] htab (fun _ h => nomatch h) rfl (by decide) (F.1.2.2.2.2 _ kl_L_33) (va_Nw.use rfl X.1.2.2.2.2.1) h1 h2 h3 ?_
        refine lv_astore (lv' := [(7, .ref q9), (0, .ref (a 0)), (1, .int x1), (2, .int x2), (3, .int x3), (4, .int x4), (5, .int x5), (6, .int x6)]) hx hb dL_lay_30 hl (by decide) rfl (fun ls hl => ?_)
        refine lv_bipush (v := -8) hx hb dL_lay_32 (by decide) ?_
        exact hq _ _ _ _ _ _ (Nat.le_of_ble_eq_true rfl) (Nat.le_of_ble_eq_true rfl) hI dL_lay_34
      · rw [h0] at h3
        refine vx_catch (own := RL) (name := "java/lang/IllegalArgumentException") F.1.2.2.2.1 [⟨0, 29, 30, 33⟩] ⟨0, 29, 35, 35⟩ [] htab (List.forall_mem_cons.mpr ⟨Or.inr ⟨by decide, _, F.1.2.2.2.2 _ kl_L_33, X.2.2.1⟩, (fun _ h => nomatch h)⟩) rfl (by decide) (F.1.2.2.2.2 _ kl_L_35) (va_Nw.use rfl X.1.2.2.2.2.2.1) h1 h2 h3 ?_
        refine lv_astore (lv' := [(7, .ref q9), (0, .ref (a 0)), (1, .int x1), (2, .int x2), (3, .int x3), (4, .int x4), (5, .int x5), (6, .int x6)]) hx hb dL_lay_35 hl (by decide) rfl (fun ls hl => ?_)
        refine lv_bipush (v := -8) hx hb dL_lay_37 (by decide) ?_
        exact hq _ _ _ _ _ _ (Nat.le_of_ble_eq_true rfl) (Nat.le_of_ble_eq_true rfl) hI dL_lay_39
    have h := (if_pos hk).symm.trans h
    refine lv_goto (tgt := 29) hx hb dL_lay_14 (by decide) ?_
    have h := Option.some.inj h
    subst h
    exact hq _ _ _ _ _ _ (Nat.le_of_ble_eq_true rfl) (Nat.le_of_ble_eq_true rfl) hI dL_lay_29
/-- SpurlineLaw.fail: what it does to a club -/
def h_fail (N : Nat) (σ : gSt) (x1 x2 : Int32) : Option (Int32 × gSt) :=
  (f_X9_fail N σ x1 x2).bind (fun (q_3 : Nat × Int32 × gSt) =>
  if ¬ (q_3.1 = 0 ∨ q_3.1 = 1 ∨ q_3.1 = 3) then none else
  if q_3.1 = 0 then
    if q_3.2.1 = 0 then
      some (0, q_3.2.2)
    else
      some (1, q_3.2.2)
  else
    some ((-8), q_3.2.2))
abbrev rmL_fail : Room := { frames := 9, cells := 2, slots := 12, locals := 146 }
theorem kd_L_fail : yL_fail.cls ≠ "java/lang/invoke/MethodHandle" ∧ yL_fail.cls ≠ "java/lang/invoke/VarHandle" ∧ (parseMethodDescriptor yL_fail.desc).map (fun d => d.parameters.length) = some 3 := by decide +kernel
set_option maxRecDepth 100000 in
set_option maxHeartbeats 4000000 in
theorem c_L_fail (l : Launch) (D : va_G) (a : Nat → Nat) (cI : ClassId) (hj : g_Inj 65 a) (hlt : l.stackTraces = false) (sa : Nat → Nat) (N : Nat) (σ : gSt) (x1 x2 : Int32) (out : Int32 × gSt) (hh : h_fail N σ x1 x2 = some out) : Met l yL_fail (Cond.codeWith yL_fail cL_fail 4 (some .int) [(0, 14, 15, 33), (0, 14, 19, 37)] :: gW) rmL_fail (g_PcL D a (gE a cI σ) [(cI, .int)] sa [.ref (a 0), .int x1, .int x2]) (g_Qi 65 D a (gE a cI out.2) out.1) 2 12 (g_Own 65 a) := by
  refine g_metL (by decide) hj (Nat.le_of_ble_eq_true rfl) ?_
  intro p e s m args below meth c Q ls F X htab hl hI hq
  have hx := F.1.1
  have hb := F.1.2.1
  have hl : lv_has ls 4 [(0, .ref (a 0)), (1, .int x1), (2, .int x2)] := hl
  have h := hh
  unfold h_fail at h
  refine lv_aload_n hx hb dL_fail_0 rfl (lv_at hl 0 rfl) ?_
  refine lv_iload_n hx hb dL_fail_1 rfl (lv_at hl 1 rfl) ?_
  refine lv_iload_n hx hb dL_fail_2 rfl (lv_at hl 2 rfl) ?_
  obtain ⟨q_3, e_3, h⟩ := gBind_in h
  obtain ⟨g_3, h⟩ := g_guard h
  have hM_3 := c_X9_fail l D a cI F.2.2 hlt sa N σ x1 x2 q_3 e_3
  refine g_callXWi (σ' := q_3.2.2) (k := q_3.1) (r := q_3.2.1) (As := [.int x1, .int x2]) (rest := []) F X hI hM_3 kb_X9_fail ki_X9_fail ks_X9_fail km_L_47 ⟨(Nat.le_of_ble_eq_true rfl), (Nat.le_of_ble_eq_true rfl), rfl, rfl⟩ hl.1 rfl (Nat.le_of_ble_eq_true rfl) ⟨(Nat.le_of_ble_eq_true rfl), (Nat.le_of_ble_eq_true rfl)⟩ dL_fail_3 (fun H locs ce q9 hk hI h1 h2 h3 => ?_) (fun H locs hk hI => ?_)
  · have h := (if_neg hk).symm.trans h
    have h := Option.some.inj h
    subst h
    rcases Decidable.not_not.mp g_3 with h0 | h0 | h0
    · exact absurd h0 hk
    · rw [h0] at h3
      refine vx_catch (own := RL) (name := "java/lang/IndexOutOfBoundsException") F.1.2.2.2.1 [] ⟨0, 14, 15, 33⟩ [⟨0, 14, 19, 37⟩] htab (fun _ h => nomatch h) rfl (by decide) (F.1.2.2.2.2 _ kl_L_33) (va_Nw.use rfl X.1.2.2.2.2.1) h1 h2 h3 ?_
      refine lv_astore_n (lv' := [(3, .ref q9), (0, .ref (a 0)), (1, .int x1), (2, .int x2)]) hx hb dL_fail_15 rfl hl (by decide) rfl (fun ls hl => ?_)
      refine lv_bipush (v := -8) hx hb dL_fail_16 (by decide) ?_
      exact hq _ _ _ _ _ _ (Nat.le_of_ble_eq_true rfl) (Nat.le_of_ble_eq_true rfl) hI dL_fail_18
    · rw [h0] at h3
      refine vx_catch (own := RL) (name := "java/lang/IllegalStateException") F.1.2.2.2.1 [⟨0, 14, 15, 33⟩] ⟨0, 14, 19, 37⟩ [] htab (List.forall_mem_cons.mpr ⟨Or.inr ⟨by decide, _, F.1.2.2.2.2 _ kl_L_33, X.2.2.2.1⟩, (fun _ h => nomatch h)⟩) rfl (by decide) (F.1.2.2.2.2 _ kl_L_37) (va_Nw.use rfl X.1.2.2.2.2.2.2.1) h1 h2 h3 ?_
      refine lv_astore_n (lv' := [(3, .ref q9), (0, .ref (a 0)), (1, .int x1), (2, .int x2)]) hx hb dL_fail_19 rfl hl (by decide) rfl (fun ls hl => ?_)
      refine lv_bipush (v := -8) hx hb dL_fail_20 (by decide) ?_
      exact hq _ _ _ _ _ _ (Nat.le_of_ble_eq_true rfl) (Nat.le_of_ble_eq_true rfl) hI dL_fail_22
  have h := (if_pos hk).symm.trans h
  refine lv_if_eq (tgt := 13) hx hb dL_fail_6 (by decide) (fun c_6 => ?_) (fun c_6 => ?_)
  · have h := (if_pos c_6).symm.trans h
    refine lv_iconst (v := 0) hx hb dL_fail_13 (by decide) ?_
    have h := Option.some.inj h
    subst h
    exact hq _ _ _ _ _ _ (Nat.le_of_ble_eq_true rfl) (Nat.le_of_ble_eq_true rfl) hI dL_fail_14
  · have h := (if_neg c_6).symm.trans h
    refine lv_iconst (v := 1) hx hb dL_fail_9 (by decide) ?_
    refine lv_goto (tgt := 14) hx hb dL_fail_10 (by decide) ?_
    have h := Option.some.inj h
    subst h
    exact hq _ _ _ _ _ _ (Nat.le_of_ble_eq_true rfl) (Nat.le_of_ble_eq_true rfl) hI dL_fail_14
/-- SpurlineLaw.of: what it does to a club -/
def h_of (N : Nat) (σ : gSt) (x1 x2 : Int32) : Option (Int32 × gSt) :=
  if x1 = 0 then
    (f_X9_lines N σ x2).bind (fun (q_6 : Nat × Int32 × gSt) =>
    if ¬ (q_6.1 = 0 ∨ q_6.1 = 1 ∨ q_6.1 = 2) then none else
    if q_6.1 = 0 then
      some (q_6.2.1, q_6.2.2)
    else
      some ((-8), q_6.2.2))
  else
    if x1 = 1 then
      (f_X9_rings N σ x2).bind (fun (q_19 : Nat × Int32 × gSt) =>
      if ¬ (q_19.1 = 0 ∨ q_19.1 = 1 ∨ q_19.1 = 2) then none else
      if q_19.1 = 0 then
        some (q_19.2.1, q_19.2.2)
      else
        some ((-8), q_19.2.2))
    else
      if x1 = 2 then
        (f_X9_longest N σ x2).bind (fun (q_32 : Nat × Int32 × gSt) =>
        if ¬ (q_32.1 = 0 ∨ q_32.1 = 1 ∨ q_32.1 = 2) then none else
        if q_32.1 = 0 then
          some (q_32.2.1, q_32.2.2)
        else
          some ((-8), q_32.2.2))
      else
        if x1 = 3 then
          (f_X9_courseClimb N σ x2).bind (fun (q_45 : Nat × Int32 × gSt) =>
          if ¬ (q_45.1 = 0 ∨ q_45.1 = 1 ∨ q_45.1 = 2) then none else
          if q_45.1 = 0 then
            some (q_45.2.1, q_45.2.2)
          else
            some ((-8), q_45.2.2))
        else
          if x1 = 4 then
            (f_X9_courseCost N σ x2).bind (fun (q_58 : Nat × Int32 × gSt) =>
            if ¬ (q_58.1 = 0 ∨ q_58.1 = 1 ∨ q_58.1 = 2) then none else
            if q_58.1 = 0 then
              some (q_58.2.1, q_58.2.2)
            else
              some ((-8), q_58.2.2))
          else
            if x1 = 5 then
              (some (f_X9_startOf σ x2)).bind (fun (q_71 : Nat × Int32 × gSt) =>
              if ¬ (q_71.1 = 0 ∨ q_71.1 = 1 ∨ q_71.1 = 2) then none else
              if q_71.1 = 0 then
                some (q_71.2.1, q_71.2.2)
              else
                some ((-8), q_71.2.2))
            else
              if x1 = 6 then
                (f_X9_stateOf N σ x2).bind (fun (q_85 : Nat × Int32 × gSt) =>
                if ¬ (q_85.1 = 0 ∨ q_85.1 = 1 ∨ q_85.1 = 2) then none else
                if q_85.1 = 0 then
                  some (q_85.2.1, q_85.2.2)
                else
                  some ((-8), q_85.2.2))
              else
                if x1 = 7 then
                  (f_X9_total N σ x2).bind (fun (q_99 : Nat × Int32 × gSt) =>
                  if ¬ (q_99.1 = 0 ∨ q_99.1 = 1 ∨ q_99.1 = 2) then none else
                  if q_99.1 = 0 then
                    some (q_99.2.1, q_99.2.2)
                  else
                    some ((-8), q_99.2.2))
                else
                  (f_X9_rank N σ x2).bind (fun (q_107 : Nat × Int32 × gSt) =>
                  if ¬ (q_107.1 = 0 ∨ q_107.1 = 1 ∨ q_107.1 = 2) then none else
                  if q_107.1 = 0 then
                    some (q_107.2.1, q_107.2.2)
                  else
                    some ((-8), q_107.2.2))
abbrev rmL_of : Room := { frames := 9, cells := 1, slots := 6, locals := 157 }
theorem kd_L_of : yL_of.cls ≠ "java/lang/invoke/MethodHandle" ∧ yL_of.cls ≠ "java/lang/invoke/VarHandle" ∧ (parseMethodDescriptor yL_of.desc).map (fun d => d.parameters.length) = some 3 := by decide +kernel
set_option maxRecDepth 100000 in
set_option maxHeartbeats 4000000 in
theorem c_L_of (l : Launch) (D : va_G) (a : Nat → Nat) (cI : ClassId) (hj : g_Inj 65 a) (hlt : l.stackTraces = false) (sa : Nat → Nat) (N : Nat) (σ : gSt) (x1 x2 : Int32) (out : Int32 × gSt) (hh : h_of N σ x1 x2 = some out) : Met l yL_of (Cond.codeWith yL_of cL_of 4 (some .int) [(0, 110, 111, 33), (0, 110, 115, 35)] :: gW) rmL_of (g_PcL D a (gE a cI σ) [(cI, .int)] sa [.ref (a 0), .int x1, .int x2]) (g_Qi 65 D a (gE a cI out.2) out.1) 1 6 (g_Own 65 a) := by
  refine g_metL (by decide) hj (Nat.le_of_ble_eq_true rfl) ?_
  intro p e s m args below meth c Q ls F X htab hl hI hq
  have hx := F.1.1
  have hb := F.1.2.1
  have hl : lv_has ls 4 [(0, .ref (a 0)), (1, .int x1), (2, .int x2)] := hl
  have h := hh
  unfold h_of at h
  refine lv_iload_n hx hb dL_of_0 rfl (lv_at hl 1 rfl) ?_
  refine lv_if_ne (tgt := 12) hx hb dL_of_1 (by decide) (fun c_1 => ?_) (fun c_1 => ?_)
  · have h := (if_neg c_1).symm.trans h
    refine lv_iload_n hx hb dL_of_12 rfl (lv_at hl 1 rfl) ?_
    refine lv_iconst (v := 1) hx hb dL_of_13 (by decide) ?_
    refine lv_icmp_ne (tgt := 25) hx hb dL_of_14 (by decide) (fun c_14 => ?_) (fun c_14 => ?_)
    · have h := (if_neg c_14).symm.trans h
      refine lv_iload_n hx hb dL_of_25 rfl (lv_at hl 1 rfl) ?_
      refine lv_iconst (v := 2) hx hb dL_of_26 (by decide) ?_
      refine lv_icmp_ne (tgt := 38) hx hb dL_of_27 (by decide) (fun c_27 => ?_) (fun c_27 => ?_)
      · have h := (if_neg c_27).symm.trans h
        refine lv_iload_n hx hb dL_of_38 rfl (lv_at hl 1 rfl) ?_
        refine lv_iconst (v := 3) hx hb dL_of_39 (by decide) ?_
        refine lv_icmp_ne (tgt := 51) hx hb dL_of_40 (by decide) (fun c_40 => ?_) (fun c_40 => ?_)
        · have h := (if_neg c_40).symm.trans h
          refine lv_iload_n hx hb dL_of_51 rfl (lv_at hl 1 rfl) ?_
          refine lv_iconst (v := 4) hx hb dL_of_52 (by decide) ?_
          refine lv_icmp_ne (tgt := 64) hx hb dL_of_53 (by decide) (fun c_53 => ?_) (fun c_53 => ?_)
          · have h := (if_neg c_53).symm.trans h
            refine lv_iload_n hx hb dL_of_64 rfl (lv_at hl 1 rfl) ?_
            refine lv_iconst (v := 5) hx hb dL_of_65 (by decide) ?_
            refine lv_icmp_ne (tgt := 77) hx hb dL_of_66 (by decide) (fun c_66 => ?_) (fun c_66 => ?_)
            · have h := (if_neg c_66).symm.trans h
              refine lv_iload_n hx hb dL_of_77 rfl (lv_at hl 1 rfl) ?_
              refine lv_bipush (v := 6) hx hb dL_of_78 (by decide) ?_
              refine lv_icmp_ne (tgt := 91) hx hb dL_of_80 (by decide) (fun c_80 => ?_) (fun c_80 => ?_)
              · have h := (if_neg c_80).symm.trans h
                refine lv_iload_n hx hb dL_of_91 rfl (lv_at hl 1 rfl) ?_
                refine lv_bipush (v := 7) hx hb dL_of_92 (by decide) ?_
                refine lv_icmp_ne (tgt := 105) hx hb dL_of_94 (by decide) (fun c_94 => ?_) (fun c_94 => ?_)
                · have h := (if_neg c_94).symm.trans h
                  refine lv_aload_n hx hb dL_of_105 rfl (lv_at hl 0 rfl) ?_
                  refine lv_iload_n hx hb dL_of_106 rfl (lv_at hl 2 rfl) ?_
                  obtain ⟨q_107, e_107, h⟩ := gBind_in h
                  obtain ⟨g_107, h⟩ := g_guard h
                  have hM_107 := c_X9_rank l D a cI F.2.2 hlt sa N σ x2 q_107 e_107
                  refine g_callXWi (σ' := q_107.2.2) (k := q_107.1) (r := q_107.2.1) (As := [.int x2]) (rest := []) F X hI hM_107 kb_X9_rank ki_X9_rank ks_X9_rank km_L_76 ⟨(Nat.le_of_ble_eq_true rfl), (Nat.le_of_ble_eq_true rfl), rfl, rfl⟩ hl.1 rfl (Nat.le_of_ble_eq_true rfl) ⟨(Nat.le_of_ble_eq_true rfl), (Nat.le_of_ble_eq_true rfl)⟩ dL_of_107 (fun H locs ce q9 hk hI h1 h2 h3 => ?_) (fun H locs hk hI => ?_)
                  · have h := (if_neg hk).symm.trans h
                    have h := Option.some.inj h
                    subst h
                    rcases Decidable.not_not.mp g_107 with h0 | h0 | h0
                    · exact absurd h0 hk
                    · rw [h0] at h3
                      refine vx_catch (own := RL) (name := "java/lang/IndexOutOfBoundsException") F.1.2.2.2.1 [] ⟨0, 110, 111, 33⟩ [⟨0, 110, 115, 35⟩] htab (fun _ h => nomatch h) rfl (by decide) (F.1.2.2.2.2 _ kl_L_33) (va_Nw.use rfl X.1.2.2.2.2.1) h1 h2 h3 ?_
                      refine lv_astore_n (lv' := [(3, .ref q9), (0, .ref (a 0)), (1, .int x1), (2, .int x2)]) hx hb dL_of_111 rfl hl (by decide) rfl (fun ls hl => ?_)
                      refine lv_bipush (v := -8) hx hb dL_of_112 (by decide) ?_
                      exact hq _ _ _ _ _ _ (Nat.le_of_ble_eq_true rfl) (Nat.le_of_ble_eq_true rfl) hI dL_of_114
                    · rw [h0] at h3
                      refine vx_catch (own := RL) (name := "java/lang/IllegalArgumentException") F.1.2.2.2.1 [⟨0, 110, 111, 33⟩] ⟨0, 110, 115, 35⟩ [] htab (List.forall_mem_cons.mpr ⟨Or.inr ⟨by decide, _, F.1.2.2.2.2 _ kl_L_33, X.2.2.1⟩, (fun _ h => nomatch h)⟩) rfl (by decide) (F.1.2.2.2.2 _ kl_L_35) (va_Nw.use rfl X.1.2.2.2.2.2.1) h1 h2 h3 ?_
                      refine lv_astore_n (lv' := [(3, .ref q9), (0, .ref (a 0)), (1, .int x1), (2, .int x2)]) hx hb dL_of_115 rfl hl (by decide) rfl (fun ls hl => ?_)
                      refine lv_bipush (v := -8) hx hb dL_of_116 (by decide) ?_
                      exact hq _ _ _ _ _ _ (Nat.le_of_ble_eq_true rfl) (Nat.le_of_ble_eq_true rfl) hI dL_of_118
                  have h := (if_pos hk).symm.trans h
                  have h := Option.some.inj h
                  subst h
                  exact hq _ _ _ _ _ _ (Nat.le_of_ble_eq_true rfl) (Nat.le_of_ble_eq_true rfl) hI dL_of_110
                · have h := (if_pos c_94).symm.trans h
                  refine lv_aload_n hx hb dL_of_97 rfl (lv_at hl 0 rfl) ?_
                  refine lv_iload_n hx hb dL_of_98 rfl (lv_at hl 2 rfl) ?_
                  obtain ⟨q_99, e_99, h⟩ := gBind_in h
                  obtain ⟨g_99, h⟩ := g_guard h
                  have hM_99 := c_X9_total l D a cI F.2.2 hlt sa N σ x2 q_99 e_99
                  refine g_callXWi (σ' := q_99.2.2) (k := q_99.1) (r := q_99.2.1) (As := [.int x2]) (rest := []) F X hI hM_99 kb_X9_total ki_X9_total ks_X9_total km_L_73 ⟨(Nat.le_of_ble_eq_true rfl), (Nat.le_of_ble_eq_true rfl), rfl, rfl⟩ hl.1 rfl (Nat.le_of_ble_eq_true rfl) ⟨(Nat.le_of_ble_eq_true rfl), (Nat.le_of_ble_eq_true rfl)⟩ dL_of_99 (fun H locs ce q9 hk hI h1 h2 h3 => ?_) (fun H locs hk hI => ?_)
                  · have h := (if_neg hk).symm.trans h
                    have h := Option.some.inj h
                    subst h
                    rcases Decidable.not_not.mp g_99 with h0 | h0 | h0
                    · exact absurd h0 hk
                    · rw [h0] at h3
                      refine vx_catch (own := RL) (name := "java/lang/IndexOutOfBoundsException") F.1.2.2.2.1 [] ⟨0, 110, 111, 33⟩ [⟨0, 110, 115, 35⟩] htab (fun _ h => nomatch h) rfl (by decide) (F.1.2.2.2.2 _ kl_L_33) (va_Nw.use rfl X.1.2.2.2.2.1) h1 h2 h3 ?_
                      refine lv_astore_n (lv' := [(3, .ref q9), (0, .ref (a 0)), (1, .int x1), (2, .int x2)]) hx hb dL_of_111 rfl hl (by decide) rfl (fun ls hl => ?_)
                      refine lv_bipush (v := -8) hx hb dL_of_112 (by decide) ?_
                      exact hq _ _ _ _ _ _ (Nat.le_of_ble_eq_true rfl) (Nat.le_of_ble_eq_true rfl) hI dL_of_114
                    · rw [h0] at h3
                      refine vx_catch (own := RL) (name := "java/lang/IllegalArgumentException") F.1.2.2.2.1 [⟨0, 110, 111, 33⟩] ⟨0, 110, 115, 35⟩ [] htab (List.forall_mem_cons.mpr ⟨Or.inr ⟨by decide, _, F.1.2.2.2.2 _ kl_L_33, X.2.2.1⟩, (fun _ h => nomatch h)⟩) rfl (by decide) (F.1.2.2.2.2 _ kl_L_35) (va_Nw.use rfl X.1.2.2.2.2.2.1) h1 h2 h3 ?_
                      refine lv_astore_n (lv' := [(3, .ref q9), (0, .ref (a 0)), (1, .int x1), (2, .int x2)]) hx hb dL_of_115 rfl hl (by decide) rfl (fun ls hl => ?_)
                      refine lv_bipush (v := -8) hx hb dL_of_116 (by decide) ?_
                      exact hq _ _ _ _ _ _ (Nat.le_of_ble_eq_true rfl) (Nat.le_of_ble_eq_true rfl) hI dL_of_118
                  have h := (if_pos hk).symm.trans h
                  refine lv_goto (tgt := 110) hx hb dL_of_102 (by decide) ?_
                  have h := Option.some.inj h
                  subst h
                  exact hq _ _ _ _ _ _ (Nat.le_of_ble_eq_true rfl) (Nat.le_of_ble_eq_true rfl) hI dL_of_110
              · have h := (if_pos c_80).symm.trans h
                refine lv_aload_n hx hb dL_of_83 rfl (lv_at hl 0 rfl) ?_
                refine lv_iload_n hx hb dL_of_84 rfl (lv_at hl 2 rfl) ?_
                obtain ⟨q_85, e_85, h⟩ := gBind_in h
                obtain ⟨g_85, h⟩ := g_guard h
                have hM_85 := c_X9_stateOf l D a cI F.2.2 hlt sa N σ x2 q_85 e_85
                refine g_callXWi (σ' := q_85.2.2) (k := q_85.1) (r := q_85.2.1) (As := [.int x2]) (rest := []) F X hI hM_85 kb_X9_stateOf ki_X9_stateOf ks_X9_stateOf km_L_70 ⟨(Nat.le_of_ble_eq_true rfl), (Nat.le_of_ble_eq_true rfl), rfl, rfl⟩ hl.1 rfl (Nat.le_of_ble_eq_true rfl) ⟨(Nat.le_of_ble_eq_true rfl), (Nat.le_of_ble_eq_true rfl)⟩ dL_of_85 (fun H locs ce q9 hk hI h1 h2 h3 => ?_) (fun H locs hk hI => ?_)
                · have h := (if_neg hk).symm.trans h
                  have h := Option.some.inj h
                  subst h
                  rcases Decidable.not_not.mp g_85 with h0 | h0 | h0
                  · exact absurd h0 hk
                  · rw [h0] at h3
                    refine vx_catch (own := RL) (name := "java/lang/IndexOutOfBoundsException") F.1.2.2.2.1 [] ⟨0, 110, 111, 33⟩ [⟨0, 110, 115, 35⟩] htab (fun _ h => nomatch h) rfl (by decide) (F.1.2.2.2.2 _ kl_L_33) (va_Nw.use rfl X.1.2.2.2.2.1) h1 h2 h3 ?_
                    refine lv_astore_n (lv' := [(3, .ref q9), (0, .ref (a 0)), (1, .int x1), (2, .int x2)]) hx hb dL_of_111 rfl hl (by decide) rfl (fun ls hl => ?_)
                    refine lv_bipush (v := -8) hx hb dL_of_112 (by decide) ?_
                    exact hq _ _ _ _ _ _ (Nat.le_of_ble_eq_true rfl) (Nat.le_of_ble_eq_true rfl) hI dL_of_114
                  · rw [h0] at h3
                    refine vx_catch (own := RL) (name := "java/lang/IllegalArgumentException") F.1.2.2.2.1 [⟨0, 110, 111, 33⟩] ⟨0, 110, 115, 35⟩ [] htab (List.forall_mem_cons.mpr ⟨Or.inr ⟨by decide, _, F.1.2.2.2.2 _ kl_L_33, X.2.2.1⟩, (fun _ h => nomatch h)⟩) rfl (by decide) (F.1.2.2.2.2 _ kl_L_35) (va_Nw.use rfl X.1.2.2.2.2.2.1) h1 h2 h3 ?_
                    refine lv_astore_n (lv' := [(3, .ref q9), (0, .ref (a 0)), (1, .int x1), (2, .int x2)]) hx hb dL_of_115 rfl hl (by decide) rfl (fun ls hl => ?_)
                    refine lv_bipush (v := -8) hx hb dL_of_116 (by decide) ?_
                    exact hq _ _ _ _ _ _ (Nat.le_of_ble_eq_true rfl) (Nat.le_of_ble_eq_true rfl) hI dL_of_118
                have h := (if_pos hk).symm.trans h
                refine lv_goto (tgt := 110) hx hb dL_of_88 (by decide) ?_
                have h := Option.some.inj h
                subst h
                exact hq _ _ _ _ _ _ (Nat.le_of_ble_eq_true rfl) (Nat.le_of_ble_eq_true rfl) hI dL_of_110
            · have h := (if_pos c_66).symm.trans h
              refine lv_aload_n hx hb dL_of_69 rfl (lv_at hl 0 rfl) ?_
              refine lv_iload_n hx hb dL_of_70 rfl (lv_at hl 2 rfl) ?_
              obtain ⟨q_71, e_71, h⟩ := gBind_in h
              obtain ⟨g_71, h⟩ := g_guard h
              have hM_71 := c_X9_startOf l D a cI F.2.2 hlt sa σ x2
              rw [Option.some.inj e_71] at hM_71
              refine g_callXWi (σ' := q_71.2.2) (k := q_71.1) (r := q_71.2.1) (As := [.int x2]) (rest := []) F X hI hM_71 kb_X9_startOf ki_X9_startOf ks_X9_startOf km_L_67 ⟨(Nat.le_of_ble_eq_true rfl), (Nat.le_of_ble_eq_true rfl), rfl, rfl⟩ hl.1 rfl (Nat.le_of_ble_eq_true rfl) ⟨(Nat.le_of_ble_eq_true rfl), (Nat.le_of_ble_eq_true rfl)⟩ dL_of_71 (fun H locs ce q9 hk hI h1 h2 h3 => ?_) (fun H locs hk hI => ?_)
              · have h := (if_neg hk).symm.trans h
                have h := Option.some.inj h
                subst h
                rcases Decidable.not_not.mp g_71 with h0 | h0 | h0
                · exact absurd h0 hk
                · rw [h0] at h3
                  refine vx_catch (own := RL) (name := "java/lang/IndexOutOfBoundsException") F.1.2.2.2.1 [] ⟨0, 110, 111, 33⟩ [⟨0, 110, 115, 35⟩] htab (fun _ h => nomatch h) rfl (by decide) (F.1.2.2.2.2 _ kl_L_33) (va_Nw.use rfl X.1.2.2.2.2.1) h1 h2 h3 ?_
                  refine lv_astore_n (lv' := [(3, .ref q9), (0, .ref (a 0)), (1, .int x1), (2, .int x2)]) hx hb dL_of_111 rfl hl (by decide) rfl (fun ls hl => ?_)
                  refine lv_bipush (v := -8) hx hb dL_of_112 (by decide) ?_
                  exact hq _ _ _ _ _ _ (Nat.le_of_ble_eq_true rfl) (Nat.le_of_ble_eq_true rfl) hI dL_of_114
                · rw [h0] at h3
                  refine vx_catch (own := RL) (name := "java/lang/IllegalArgumentException") F.1.2.2.2.1 [⟨0, 110, 111, 33⟩] ⟨0, 110, 115, 35⟩ [] htab (List.forall_mem_cons.mpr ⟨Or.inr ⟨by decide, _, F.1.2.2.2.2 _ kl_L_33, X.2.2.1⟩, (fun _ h => nomatch h)⟩) rfl (by decide) (F.1.2.2.2.2 _ kl_L_35) (va_Nw.use rfl X.1.2.2.2.2.2.1) h1 h2 h3 ?_
                  refine lv_astore_n (lv' := [(3, .ref q9), (0, .ref (a 0)), (1, .int x1), (2, .int x2)]) hx hb dL_of_115 rfl hl (by decide) rfl (fun ls hl => ?_)
                  refine lv_bipush (v := -8) hx hb dL_of_116 (by decide) ?_
                  exact hq _ _ _ _ _ _ (Nat.le_of_ble_eq_true rfl) (Nat.le_of_ble_eq_true rfl) hI dL_of_118
              have h := (if_pos hk).symm.trans h
              refine lv_goto (tgt := 110) hx hb dL_of_74 (by decide) ?_
              have h := Option.some.inj h
              subst h
              exact hq _ _ _ _ _ _ (Nat.le_of_ble_eq_true rfl) (Nat.le_of_ble_eq_true rfl) hI dL_of_110
          · have h := (if_pos c_53).symm.trans h
            refine lv_aload_n hx hb dL_of_56 rfl (lv_at hl 0 rfl) ?_
            refine lv_iload_n hx hb dL_of_57 rfl (lv_at hl 2 rfl) ?_
            obtain ⟨q_58, e_58, h⟩ := gBind_in h
            obtain ⟨g_58, h⟩ := g_guard h
            have hM_58 := c_X9_courseCost l D a cI F.2.2 hlt sa N σ x2 q_58 e_58
            refine g_callXWi (σ' := q_58.2.2) (k := q_58.1) (r := q_58.2.1) (As := [.int x2]) (rest := []) F X hI hM_58 kb_X9_courseCost ki_X9_courseCost ks_X9_courseCost km_L_64 ⟨(Nat.le_of_ble_eq_true rfl), (Nat.le_of_ble_eq_true rfl), rfl, rfl⟩ hl.1 rfl (Nat.le_of_ble_eq_true rfl) ⟨(Nat.le_of_ble_eq_true rfl), (Nat.le_of_ble_eq_true rfl)⟩ dL_of_58 (fun H locs ce q9 hk hI h1 h2 h3 => ?_) (fun H locs hk hI => ?_)
            · have h := (if_neg hk).symm.trans h
              have h := Option.some.inj h
              subst h
              rcases Decidable.not_not.mp g_58 with h0 | h0 | h0
              · exact absurd h0 hk
              · rw [h0] at h3
                refine vx_catch (own := RL) (name := "java/lang/IndexOutOfBoundsException") F.1.2.2.2.1 [] ⟨0, 110, 111, 33⟩ [⟨0, 110, 115, 35⟩] htab (fun _ h => nomatch h) rfl (by decide) (F.1.2.2.2.2 _ kl_L_33) (va_Nw.use rfl X.1.2.2.2.2.1) h1 h2 h3 ?_
                refine lv_astore_n (lv' := [(3, .ref q9), (0, .ref (a 0)), (1, .int x1), (2, .int x2)]) hx hb dL_of_111 rfl hl (by decide) rfl (fun ls hl => ?_)
                refine lv_bipush (v := -8) hx hb dL_of_112 (by decide) ?_
                exact hq _ _ _ _ _ _ (Nat.le_of_ble_eq_true rfl) (Nat.le_of_ble_eq_true rfl) hI dL_of_114
              · rw [h0] at h3
                refine vx_catch (own := RL) (name := "java/lang/IllegalArgumentException") F.1.2.2.2.1 [⟨0, 110, 111, 33⟩] ⟨0, 110, 115, 35⟩ [] htab (List.forall_mem_cons.mpr ⟨Or.inr ⟨by decide, _, F.1.2.2.2.2 _ kl_L_33, X.2.2.1⟩, (fun _ h => nomatch h)⟩) rfl (by decide) (F.1.2.2.2.2 _ kl_L_35) (va_Nw.use rfl X.1.2.2.2.2.2.1) h1 h2 h3 ?_
                refine lv_astore_n (lv' := [(3, .ref q9), (0, .ref (a 0)), (1, .int x1), (2, .int x2)]) hx hb dL_of_115 rfl hl (by decide) rfl (fun ls hl => ?_)
                refine lv_bipush (v := -8) hx hb dL_of_116 (by decide) ?_
                exact hq _ _ _ _ _ _ (Nat.le_of_ble_eq_true rfl) (Nat.le_of_ble_eq_true rfl) hI dL_of_118
            have h := (if_pos hk).symm.trans h
            refine lv_goto (tgt := 110) hx hb dL_of_61 (by decide) ?_
            have h := Option.some.inj h
            subst h
            exact hq _ _ _ _ _ _ (Nat.le_of_ble_eq_true rfl) (Nat.le_of_ble_eq_true rfl) hI dL_of_110
        · have h := (if_pos c_40).symm.trans h
          refine lv_aload_n hx hb dL_of_43 rfl (lv_at hl 0 rfl) ?_
          refine lv_iload_n hx hb dL_of_44 rfl (lv_at hl 2 rfl) ?_
          obtain ⟨q_45, e_45, h⟩ := gBind_in h
          obtain ⟨g_45, h⟩ := g_guard h
          have hM_45 := c_X9_courseClimb l D a cI F.2.2 hlt sa N σ x2 q_45 e_45
          refine g_callXWi (σ' := q_45.2.2) (k := q_45.1) (r := q_45.2.1) (As := [.int x2]) (rest := []) F X hI hM_45 kb_X9_courseClimb ki_X9_courseClimb ks_X9_courseClimb km_L_61 ⟨(Nat.le_of_ble_eq_true rfl), (Nat.le_of_ble_eq_true rfl), rfl, rfl⟩ hl.1 rfl (Nat.le_of_ble_eq_true rfl) ⟨(Nat.le_of_ble_eq_true rfl), (Nat.le_of_ble_eq_true rfl)⟩ dL_of_45 (fun H locs ce q9 hk hI h1 h2 h3 => ?_) (fun H locs hk hI => ?_)
          · have h := (if_neg hk).symm.trans h
            have h := Option.some.inj h
            subst h
            rcases Decidable.not_not.mp g_45 with h0 | h0 | h0
            · exact absurd h0 hk
            · rw [h0] at h3
              refine vx_catch (own := RL) (name := "java/lang/IndexOutOfBoundsException") F.1.2.2.2.1 [] ⟨0, 110, 111, 33⟩ [⟨0, 110, 115, 35⟩] htab (fun _ h => nomatch h) rfl (by decide) (F.1.2.2.2.2 _ kl_L_33) (va_Nw.use rfl X.1.2.2.2.2.1) h1 h2 h3 ?_
              refine lv_astore_n (lv' := [(3, .ref q9), (0, .ref (a 0)), (1, .int x1), (2, .int x2)]) hx hb dL_of_111 rfl hl (by decide) rfl (fun ls hl => ?_)
              refine lv_bipush (v := -8) hx hb dL_of_112 (by decide) ?_
              exact hq _ _ _ _ _ _ (Nat.le_of_ble_eq_true rfl) (Nat.le_of_ble_eq_true rfl) hI dL_of_114
            · rw [h0] at h3
              refine vx_catch (own := RL) (name := "java/lang/IllegalArgumentException") F.1.2.2.2.1 [⟨0, 110, 111, 33⟩] ⟨0, 110, 115, 35⟩ [] htab (List.forall_mem_cons.mpr ⟨Or.inr ⟨by decide, _, F.1.2.2.2.2 _ kl_L_33, X.2.2.1⟩, (fun _ h => nomatch h)⟩) rfl (by decide) (F.1.2.2.2.2 _ kl_L_35) (va_Nw.use rfl X.1.2.2.2.2.2.1) h1 h2 h3 ?_
              refine lv_astore_n (lv' := [(3, .ref q9), (0, .ref (a 0)), (1, .int x1), (2, .int x2)]) hx hb dL_of_115 rfl hl (by decide) rfl (fun ls hl => ?_)
              refine lv_bipush (v := -8) hx hb dL_of_116 (by decide) ?_
              exact hq _ _ _ _ _ _ (Nat.le_of_ble_eq_true rfl) (Nat.le_of_ble_eq_true rfl) hI dL_of_118
          have h := (if_pos hk).symm.trans h
          refine lv_goto (tgt := 110) hx hb dL_of_48 (by decide) ?_
          have h := Option.some.inj h
          subst h
          exact hq _ _ _ _ _ _ (Nat.le_of_ble_eq_true rfl) (Nat.le_of_ble_eq_true rfl) hI dL_of_110
      · have h := (if_pos c_27).symm.trans h
        refine lv_aload_n hx hb dL_of_30 rfl (lv_at hl 0 rfl) ?_
        refine lv_iload_n hx hb dL_of_31 rfl (lv_at hl 2 rfl) ?_
        obtain ⟨q_32, e_32, h⟩ := gBind_in h
        obtain ⟨g_32, h⟩ := g_guard h
        have hM_32 := c_X9_longest l D a cI F.2.2 hlt sa N σ x2 q_32 e_32
        refine g_callXWi (σ' := q_32.2.2) (k := q_32.1) (r := q_32.2.1) (As := [.int x2]) (rest := []) F X hI hM_32 kb_X9_longest ki_X9_longest ks_X9_longest km_L_58 ⟨(Nat.le_of_ble_eq_true rfl), (Nat.le_of_ble_eq_true rfl), rfl, rfl⟩ hl.1 rfl (Nat.le_of_ble_eq_true rfl) ⟨(Nat.le_of_ble_eq_true rfl), (Nat.le_of_ble_eq_true rfl)⟩ dL_of_32 (fun H locs ce q9 hk hI h1 h2 h3 => ?_) (fun H locs hk hI => ?_)
        · have h := (if_neg hk).symm.trans h
          have h := Option.some.inj h
          subst h
          rcases Decidable.not_not.mp g_32 with h0 | h0 | h0
          · exact absurd h0 hk
          · rw [h0] at h3
            refine vx_catch (own := RL) (name := "java/lang/IndexOutOfBoundsException") F.1.2.2.2.1 [] ⟨0, 110, 111, 33⟩ [⟨0, 110, 115, 35⟩] htab (fun _ h => nomatch h) rfl (by decide) (F.1.2.2.2.2 _ kl_L_33) (va_Nw.use rfl X.1.2.2.2.2.1) h1 h2 h3 ?_
            refine lv_astore_n (lv' := [(3, .ref q9), (0, .ref (a 0)), (1, .int x1), (2, .int x2)]) hx hb dL_of_111 rfl hl (by decide) rfl (fun ls hl => ?_)
            refine lv_bipush (v := -8) hx hb dL_of_112 (by decide) ?_
            exact hq _ _ _ _ _ _ (Nat.le_of_ble_eq_true rfl) (Nat.le_of_ble_eq_true rfl) hI dL_of_114
          · rw [h0] at h3
            refine vx_catch (own := RL) (name := "java/lang/IllegalArgumentException") F.1.2.2.2.1 [⟨0, 110, 111, 33⟩] ⟨0, 110, 115, 35⟩ [] htab (List.forall_mem_cons.mpr ⟨Or.inr ⟨by decide, _, F.1.2.2.2.2 _ kl_L_33, X.2.2.1⟩, (fun _ h => nomatch h)⟩) rfl (by decide) (F.1.2.2.2.2 _ kl_L_35) (va_Nw.use rfl X.1.2.2.2.2.2.1) h1 h2 h3 ?_
            refine lv_astore_n (lv' := [(3, .ref q9), (0, .ref (a 0)), (1, .int x1), (2, .int x2)]) hx hb dL_of_115 rfl hl (by decide) rfl (fun ls hl => ?_)
            refine lv_bipush (v := -8) hx hb dL_of_116 (by decide) ?_
            exact hq _ _ _ _ _ _ (Nat.le_of_ble_eq_true rfl) (Nat.le_of_ble_eq_true rfl) hI dL_of_118
        have h := (if_pos hk).symm.trans h
        refine lv_goto (tgt := 110) hx hb dL_of_35 (by decide) ?_
        have h := Option.some.inj h
        subst h
        exact hq _ _ _ _ _ _ (Nat.le_of_ble_eq_true rfl) (Nat.le_of_ble_eq_true rfl) hI dL_of_110
    · have h := (if_pos c_14).symm.trans h
      refine lv_aload_n hx hb dL_of_17 rfl (lv_at hl 0 rfl) ?_
      refine lv_iload_n hx hb dL_of_18 rfl (lv_at hl 2 rfl) ?_
      obtain ⟨q_19, e_19, h⟩ := gBind_in h
      obtain ⟨g_19, h⟩ := g_guard h
      have hM_19 := c_X9_rings l D a cI F.2.2 hlt sa N σ x2 q_19 e_19
      refine g_callXWi (σ' := q_19.2.2) (k := q_19.1) (r := q_19.2.1) (As := [.int x2]) (rest := []) F X hI hM_19 kb_X9_rings ki_X9_rings ks_X9_rings km_L_55 ⟨(Nat.le_of_ble_eq_true rfl), (Nat.le_of_ble_eq_true rfl), rfl, rfl⟩ hl.1 rfl (Nat.le_of_ble_eq_true rfl) ⟨(Nat.le_of_ble_eq_true rfl), (Nat.le_of_ble_eq_true rfl)⟩ dL_of_19 (fun H locs ce q9 hk hI h1 h2 h3 => ?_) (fun H locs hk hI => ?_)
      · have h := (if_neg hk).symm.trans h
        have h := Option.some.inj h
        subst h
        rcases Decidable.not_not.mp g_19 with h0 | h0 | h0
        · exact absurd h0 hk
        · rw [h0] at h3
          refine vx_catch (own := RL) (name := "java/lang/IndexOutOfBoundsException") F.1.2.2.2.1 [] ⟨0, 110, 111, 33⟩ [⟨0, 110, 115, 35⟩] htab (fun _ h => nomatch h) rfl (by decide) (F.1.2.2.2.2 _ kl_L_33) (va_Nw.use rfl X.1.2.2.2.2.1) h1 h2 h3 ?_
          refine lv_astore_n (lv' := [(3, .ref q9), (0, .ref (a 0)), (1, .int x1), (2, .int x2)]) hx hb dL_of_111 rfl hl (by decide) rfl (fun ls hl => ?_)
          refine lv_bipush (v := -8) hx hb dL_of_112 (by decide) ?_
          exact hq _ _ _ _ _ _ (Nat.le_of_ble_eq_true rfl) (Nat.le_of_ble_eq_true rfl) hI dL_of_114
        · rw [h0] at h3
          refine vx_catch (own := RL) (name := "java/lang/IllegalArgumentException") F.1.2.2.2.1 [⟨0, 110, 111, 33⟩] ⟨0, 110, 115, 35⟩ [] htab (List.forall_mem_cons.mpr ⟨Or.inr ⟨by decide, _, F.1.2.2.2.2 _ kl_L_33, X.2.2.1⟩, (fun _ h => nomatch h)⟩) rfl (by decide) (F.1.2.2.2.2 _ kl_L_35) (va_Nw.use rfl X.1.2.2.2.2.2.1) h1 h2 h3 ?_
          refine lv_astore_n (lv' := [(3, .ref q9), (0, .ref (a 0)), (1, .int x1), (2, .int x2)]) hx hb dL_of_115 rfl hl (by decide) rfl (fun ls hl => ?_)
          refine lv_bipush (v := -8) hx hb dL_of_116 (by decide) ?_
          exact hq _ _ _ _ _ _ (Nat.le_of_ble_eq_true rfl) (Nat.le_of_ble_eq_true rfl) hI dL_of_118
      have h := (if_pos hk).symm.trans h
      refine lv_goto (tgt := 110) hx hb dL_of_22 (by decide) ?_
      have h := Option.some.inj h
      subst h
      exact hq _ _ _ _ _ _ (Nat.le_of_ble_eq_true rfl) (Nat.le_of_ble_eq_true rfl) hI dL_of_110
  · have h := (if_pos c_1).symm.trans h
    refine lv_aload_n hx hb dL_of_4 rfl (lv_at hl 0 rfl) ?_
    refine lv_iload_n hx hb dL_of_5 rfl (lv_at hl 2 rfl) ?_
    obtain ⟨q_6, e_6, h⟩ := gBind_in h
    obtain ⟨g_6, h⟩ := g_guard h
    have hM_6 := c_X9_lines l D a cI F.2.2 hlt sa N σ x2 q_6 e_6
    refine g_callXWi (σ' := q_6.2.2) (k := q_6.1) (r := q_6.2.1) (As := [.int x2]) (rest := []) F X hI hM_6 kb_X9_lines ki_X9_lines ks_X9_lines km_L_51 ⟨(Nat.le_of_ble_eq_true rfl), (Nat.le_of_ble_eq_true rfl), rfl, rfl⟩ hl.1 rfl (Nat.le_of_ble_eq_true rfl) ⟨(Nat.le_of_ble_eq_true rfl), (Nat.le_of_ble_eq_true rfl)⟩ dL_of_6 (fun H locs ce q9 hk hI h1 h2 h3 => ?_) (fun H locs hk hI => ?_)
    · have h := (if_neg hk).symm.trans h
      have h := Option.some.inj h
      subst h
      rcases Decidable.not_not.mp g_6 with h0 | h0 | h0
      · exact absurd h0 hk
      · rw [h0] at h3
        refine vx_catch (own := RL) (name := "java/lang/IndexOutOfBoundsException") F.1.2.2.2.1 [] ⟨0, 110, 111, 33⟩ [⟨0, 110, 115, 35⟩] htab (fun _ h => nomatch h) rfl (by decide) (F.1.2.2.2.2 _ kl_L_33) (va_Nw.use rfl X.1.2.2.2.2.1) h1 h2 h3 ?_
        refine lv_astore_n (lv' := [(3, .ref q9), (0, .ref (a 0)), (1, .int x1), (2, .int x2)]) hx hb dL_of_111 rfl hl (by decide) rfl (fun ls hl => ?_)
        refine lv_bipush (v := -8) hx hb dL_of_112 (by decide) ?_
        exact hq _ _ _ _ _ _ (Nat.le_of_ble_eq_true rfl) (Nat.le_of_ble_eq_true rfl) hI dL_of_114
      · rw [h0] at h3
        refine vx_catch (own := RL) (name := "java/lang/IllegalArgumentException") F.1.2.2.2.1 [⟨0, 110, 111, 33⟩] ⟨0, 110, 115, 35⟩ [] htab (List.forall_mem_cons.mpr ⟨Or.inr ⟨by decide, _, F.1.2.2.2.2 _ kl_L_33, X.2.2.1⟩, (fun _ h => nomatch h)⟩) rfl (by decide) (F.1.2.2.2.2 _ kl_L_35) (va_Nw.use rfl X.1.2.2.2.2.2.1) h1 h2 h3 ?_
        refine lv_astore_n (lv' := [(3, .ref q9), (0, .ref (a 0)), (1, .int x1), (2, .int x2)]) hx hb dL_of_115 rfl hl (by decide) rfl (fun ls hl => ?_)
        refine lv_bipush (v := -8) hx hb dL_of_116 (by decide) ?_
        exact hq _ _ _ _ _ _ (Nat.le_of_ble_eq_true rfl) (Nat.le_of_ble_eq_true rfl) hI dL_of_118
    have h := (if_pos hk).symm.trans h
    refine lv_goto (tgt := 110) hx hb dL_of_9 (by decide) ?_
    have h := Option.some.inj h
    subst h
    exact hq _ _ _ _ _ _ (Nat.le_of_ble_eq_true rfl) (Nat.le_of_ble_eq_true rfl) hI dL_of_110
/-- SpurlineLaw.at: what it does to a club -/
def h_at (N : Nat) (σ : gSt) (x1 x2 x3 : Int32) : Option (Int32 × gSt) :=
  if x1 = 0 then
    (some (f_X9_cell σ x2 x3)).bind (fun (q_7 : Nat × Int32 × gSt) =>
    if ¬ (q_7.1 = 0 ∨ q_7.1 = 1) then none else
    if q_7.1 = 0 then
      some (q_7.2.1, q_7.2.2)
    else
      some ((-8), q_7.2.2))
  else
    if x1 = 1 then
      (f_X9_cost N σ x2 x3).bind (fun (q_21 : Nat × Int32 × gSt) =>
      if ¬ (q_21.1 = 0 ∨ q_21.1 = 1) then none else
      if q_21.1 = 0 then
        some (q_21.2.1, q_21.2.2)
      else
        some ((-8), q_21.2.2))
    else
      if x1 = 2 then
        (f_X9_costByCells N σ x2 x3).bind (fun (q_35 : Nat × Int32 × gSt) =>
        if ¬ (q_35.1 = 0 ∨ q_35.1 = 1) then none else
        if q_35.1 = 0 then
          some (q_35.2.1, q_35.2.2)
        else
          some ((-8), q_35.2.2))
      else
        if x1 = 3 then
          (f_X9_climb N σ x2 x3).bind (fun (q_49 : Nat × Int32 × gSt) =>
          if ¬ (q_49.1 = 0 ∨ q_49.1 = 1) then none else
          if q_49.1 = 0 then
            some (q_49.2.1, q_49.2.2)
          else
            some ((-8), q_49.2.2))
        else
          if x1 = 4 then
            (f_X9_tempts N σ x2 x3).bind (fun (q_63 : Nat × Int32 × gSt) =>
            if ¬ (q_63.1 = 0 ∨ q_63.1 = 1) then none else
            if q_63.1 = 0 then
              if q_63.2.1 = 0 then
                some (0, q_63.2.2)
              else
                some (1, q_63.2.2)
            else
              some ((-8), q_63.2.2))
          else
            if x1 = 5 then
              (some (f_X9_courseAt σ x2 x3)).bind (fun (q_85 : Nat × Int32 × gSt) =>
              if ¬ (q_85.1 = 0 ∨ q_85.1 = 1) then none else
              if q_85.1 = 0 then
                some (q_85.2.1, q_85.2.2)
              else
                some ((-8), q_85.2.2))
            else
              if x1 = 6 then
                (f_X9_split N σ x2 x3).bind (fun (q_100 : Nat × Int32 × gSt) =>
                if ¬ (q_100.1 = 0 ∨ q_100.1 = 1) then none else
                if q_100.1 = 0 then
                  some (q_100.2.1, q_100.2.2)
                else
                  some ((-8), q_100.2.2))
              else
                (f_X9_lost N σ x2 x3).bind (fun (q_109 : Nat × Int32 × gSt) =>
                if ¬ (q_109.1 = 0 ∨ q_109.1 = 1) then none else
                if q_109.1 = 0 then
                  some (q_109.2.1, q_109.2.2)
                else
                  some ((-8), q_109.2.2))
abbrev rmL_at : Room := { frames := 9, cells := 2, slots := 12, locals := 165 }
theorem kd_L_at : yL_at.cls ≠ "java/lang/invoke/MethodHandle" ∧ yL_at.cls ≠ "java/lang/invoke/VarHandle" ∧ (parseMethodDescriptor yL_at.desc).map (fun d => d.parameters.length) = some 4 := by decide +kernel
set_option maxRecDepth 100000 in
set_option maxHeartbeats 4000000 in
theorem c_L_at (l : Launch) (D : va_G) (a : Nat → Nat) (cI : ClassId) (hj : g_Inj 65 a) (hlt : l.stackTraces = false) (sa : Nat → Nat) (N : Nat) (σ : gSt) (x1 x2 x3 : Int32) (out : Int32 × gSt) (hh : h_at N σ x1 x2 x3 = some out) : Met l yL_at (Cond.codeWith yL_at cL_at 5 (some .int) [(0, 112, 113, 33)] :: gW) rmL_at (g_PcL D a (gE a cI σ) [(cI, .int)] sa [.ref (a 0), .int x1, .int x2, .int x3]) (g_Qi 65 D a (gE a cI out.2) out.1) 2 12 (g_Own 65 a) := by
  refine g_metL (by decide) hj (Nat.le_of_ble_eq_true rfl) ?_
  intro p e s m args below meth c Q ls F X htab hl hI hq
  have hx := F.1.1
  have hb := F.1.2.1
  have hl : lv_has ls 5 [(0, .ref (a 0)), (1, .int x1), (2, .int x2), (3, .int x3)] := hl
  have h := hh
  unfold h_at at h
  refine lv_iload_n hx hb dL_at_0 rfl (lv_at hl 1 rfl) ?_
  refine lv_if_ne (tgt := 13) hx hb dL_at_1 (by decide) (fun c_1 => ?_) (fun c_1 => ?_)
  · have h := (if_neg c_1).symm.trans h
    refine lv_iload_n hx hb dL_at_13 rfl (lv_at hl 1 rfl) ?_
    refine lv_iconst (v := 1) hx hb dL_at_14 (by decide) ?_
    refine lv_icmp_ne (tgt := 27) hx hb dL_at_15 (by decide) (fun c_15 => ?_) (fun c_15 => ?_)
    · have h := (if_neg c_15).symm.trans h
      refine lv_iload_n hx hb dL_at_27 rfl (lv_at hl 1 rfl) ?_
      refine lv_iconst (v := 2) hx hb dL_at_28 (by decide) ?_
      refine lv_icmp_ne (tgt := 41) hx hb dL_at_29 (by decide) (fun c_29 => ?_) (fun c_29 => ?_)
      · have h := (if_neg c_29).symm.trans h
        refine lv_iload_n hx hb dL_at_41 rfl (lv_at hl 1 rfl) ?_
        refine lv_iconst (v := 3) hx hb dL_at_42 (by decide) ?_
        refine lv_icmp_ne (tgt := 55) hx hb dL_at_43 (by decide) (fun c_43 => ?_) (fun c_43 => ?_)
        · have h := (if_neg c_43).symm.trans h
          refine lv_iload_n hx hb dL_at_55 rfl (lv_at hl 1 rfl) ?_
          refine lv_iconst (v := 4) hx hb dL_at_56 (by decide) ?_
          refine lv_icmp_ne (tgt := 77) hx hb dL_at_57 (by decide) (fun c_57 => ?_) (fun c_57 => ?_)
          · have h := (if_neg c_57).symm.trans h
            refine lv_iload_n hx hb dL_at_77 rfl (lv_at hl 1 rfl) ?_
            refine lv_iconst (v := 5) hx hb dL_at_78 (by decide) ?_
            refine lv_icmp_ne (tgt := 91) hx hb dL_at_79 (by decide) (fun c_79 => ?_) (fun c_79 => ?_)
            · have h := (if_neg c_79).symm.trans h
              refine lv_iload_n hx hb dL_at_91 rfl (lv_at hl 1 rfl) ?_
              refine lv_bipush (v := 6) hx hb dL_at_92 (by decide) ?_
              refine lv_icmp_ne (tgt := 106) hx hb dL_at_94 (by decide) (fun c_94 => ?_) (fun c_94 => ?_)
              · have h := (if_neg c_94).symm.trans h
                refine lv_aload_n hx hb dL_at_106 rfl (lv_at hl 0 rfl) ?_
                refine lv_iload_n hx hb dL_at_107 rfl (lv_at hl 2 rfl) ?_
                refine lv_iload_n hx hb dL_at_108 rfl (lv_at hl 3 rfl) ?_
                obtain ⟨q_109, e_109, h⟩ := gBind_in h
                obtain ⟨g_109, h⟩ := g_guard h
                have hM_109 := c_X9_lost l D a cI F.2.2 hlt sa N σ x2 x3 q_109 e_109
                refine g_callXWi (σ' := q_109.2.2) (k := q_109.1) (r := q_109.2.1) (As := [.int x2, .int x3]) (rest := []) F X hI hM_109 kb_X9_lost ki_X9_lost ks_X9_lost km_L_101 ⟨(Nat.le_of_ble_eq_true rfl), (Nat.le_of_ble_eq_true rfl), rfl, rfl⟩ hl.1 rfl (Nat.le_of_ble_eq_true rfl) ⟨(Nat.le_of_ble_eq_true rfl), (Nat.le_of_ble_eq_true rfl)⟩ dL_at_109 (fun H locs ce q9 hk hI h1 h2 h3 => ?_) (fun H locs hk hI => ?_)
                · have h := (if_neg hk).symm.trans h
                  have h := Option.some.inj h
                  subst h
                  rcases Decidable.not_not.mp g_109 with h0 | h0
                  · exact absurd h0 hk
                  · rw [h0] at h3
                    refine vx_catch (own := RL) (name := "java/lang/IndexOutOfBoundsException") F.1.2.2.2.1 [] ⟨0, 112, 113, 33⟩ [] htab (fun _ h => nomatch h) rfl (by decide) (F.1.2.2.2.2 _ kl_L_33) (va_Nw.use rfl X.1.2.2.2.2.1) h1 h2 h3 ?_
                    refine lv_astore (lv' := [(4, .ref q9), (0, .ref (a 0)), (1, .int x1), (2, .int x2), (3, .int x3)]) hx hb dL_at_113 hl (by decide) rfl (fun ls hl => ?_)
                    refine lv_bipush (v := -8) hx hb dL_at_115 (by decide) ?_
                    exact hq _ _ _ _ _ _ (Nat.le_of_ble_eq_true rfl) (Nat.le_of_ble_eq_true rfl) hI dL_at_117
                have h := (if_pos hk).symm.trans h
                have h := Option.some.inj h
                subst h
                exact hq _ _ _ _ _ _ (Nat.le_of_ble_eq_true rfl) (Nat.le_of_ble_eq_true rfl) hI dL_at_112
              · have h := (if_pos c_94).symm.trans h
                refine lv_aload_n hx hb dL_at_97 rfl (lv_at hl 0 rfl) ?_
                refine lv_iload_n hx hb dL_at_98 rfl (lv_at hl 2 rfl) ?_
                refine lv_iload_n hx hb dL_at_99 rfl (lv_at hl 3 rfl) ?_
                obtain ⟨q_100, e_100, h⟩ := gBind_in h
                obtain ⟨g_100, h⟩ := g_guard h
                have hM_100 := c_X9_split l D a cI F.2.2 hlt sa N σ x2 x3 q_100 e_100
                refine g_callXWi (σ' := q_100.2.2) (k := q_100.1) (r := q_100.2.1) (As := [.int x2, .int x3]) (rest := []) F X hI hM_100 kb_X9_split ki_X9_split ks_X9_split km_L_98 ⟨(Nat.le_of_ble_eq_true rfl), (Nat.le_of_ble_eq_true rfl), rfl, rfl⟩ hl.1 rfl (Nat.le_of_ble_eq_true rfl) ⟨(Nat.le_of_ble_eq_true rfl), (Nat.le_of_ble_eq_true rfl)⟩ dL_at_100 (fun H locs ce q9 hk hI h1 h2 h3 => ?_) (fun H locs hk hI => ?_)
                · have h := (if_neg hk).symm.trans h
                  have h := Option.some.inj h
                  subst h
                  rcases Decidable.not_not.mp g_100 with h0 | h0
                  · exact absurd h0 hk
                  · rw [h0] at h3
                    refine vx_catch (own := RL) (name := "java/lang/IndexOutOfBoundsException") F.1.2.2.2.1 [] ⟨0, 112, 113, 33⟩ [] htab (fun _ h => nomatch h) rfl (by decide) (F.1.2.2.2.2 _ kl_L_33) (va_Nw.use rfl X.1.2.2.2.2.1) h1 h2 h3 ?_
                    refine lv_astore (lv' := [(4, .ref q9), (0, .ref (a 0)), (1, .int x1), (2, .int x2), (3, .int x3)]) hx hb dL_at_113 hl (by decide) rfl (fun ls hl => ?_)
                    refine lv_bipush (v := -8) hx hb dL_at_115 (by decide) ?_
                    exact hq _ _ _ _ _ _ (Nat.le_of_ble_eq_true rfl) (Nat.le_of_ble_eq_true rfl) hI dL_at_117
                have h := (if_pos hk).symm.trans h
                refine lv_goto (tgt := 112) hx hb dL_at_103 (by decide) ?_
                have h := Option.some.inj h
                subst h
                exact hq _ _ _ _ _ _ (Nat.le_of_ble_eq_true rfl) (Nat.le_of_ble_eq_true rfl) hI dL_at_112
            · have h := (if_pos c_79).symm.trans h
              refine lv_aload_n hx hb dL_at_82 rfl (lv_at hl 0 rfl) ?_
              refine lv_iload_n hx hb dL_at_83 rfl (lv_at hl 2 rfl) ?_
              refine lv_iload_n hx hb dL_at_84 rfl (lv_at hl 3 rfl) ?_
              obtain ⟨q_85, e_85, h⟩ := gBind_in h
              obtain ⟨g_85, h⟩ := g_guard h
              have hM_85 := c_X9_courseAt l D a cI F.2.2 hlt sa σ x2 x3
              rw [Option.some.inj e_85] at hM_85
              refine g_callXWi (σ' := q_85.2.2) (k := q_85.1) (r := q_85.2.1) (As := [.int x2, .int x3]) (rest := []) F X hI hM_85 kb_X9_courseAt ki_X9_courseAt ks_X9_courseAt km_L_95 ⟨(Nat.le_of_ble_eq_true rfl), (Nat.le_of_ble_eq_true rfl), rfl, rfl⟩ hl.1 rfl (Nat.le_of_ble_eq_true rfl) ⟨(Nat.le_of_ble_eq_true rfl), (Nat.le_of_ble_eq_true rfl)⟩ dL_at_85 (fun H locs ce q9 hk hI h1 h2 h3 => ?_) (fun H locs hk hI => ?_)
              · have h := (if_neg hk).symm.trans h
                have h := Option.some.inj h
                subst h
                rcases Decidable.not_not.mp g_85 with h0 | h0
                · exact absurd h0 hk
                · rw [h0] at h3
                  refine vx_catch (own := RL) (name := "java/lang/IndexOutOfBoundsException") F.1.2.2.2.1 [] ⟨0, 112, 113, 33⟩ [] htab (fun _ h => nomatch h) rfl (by decide) (F.1.2.2.2.2 _ kl_L_33) (va_Nw.use rfl X.1.2.2.2.2.1) h1 h2 h3 ?_
                  refine lv_astore (lv' := [(4, .ref q9), (0, .ref (a 0)), (1, .int x1), (2, .int x2), (3, .int x3)]) hx hb dL_at_113 hl (by decide) rfl (fun ls hl => ?_)
                  refine lv_bipush (v := -8) hx hb dL_at_115 (by decide) ?_
                  exact hq _ _ _ _ _ _ (Nat.le_of_ble_eq_true rfl) (Nat.le_of_ble_eq_true rfl) hI dL_at_117
              have h := (if_pos hk).symm.trans h
              refine lv_goto (tgt := 112) hx hb dL_at_88 (by decide) ?_
              have h := Option.some.inj h
              subst h
              exact hq _ _ _ _ _ _ (Nat.le_of_ble_eq_true rfl) (Nat.le_of_ble_eq_true rfl) hI dL_at_112
          · have h := (if_pos c_57).symm.trans h
            refine lv_aload_n hx hb dL_at_60 rfl (lv_at hl 0 rfl) ?_
            refine lv_iload_n hx hb dL_at_61 rfl (lv_at hl 2 rfl) ?_
            refine lv_iload_n hx hb dL_at_62 rfl (lv_at hl 3 rfl) ?_
            obtain ⟨q_63, e_63, h⟩ := gBind_in h
            obtain ⟨g_63, h⟩ := g_guard h
            have hM_63 := c_X9_tempts l D a cI F.2.2 hlt sa N σ x2 x3 q_63 e_63
            refine g_callXWi (σ' := q_63.2.2) (k := q_63.1) (r := q_63.2.1) (As := [.int x2, .int x3]) (rest := []) F X hI hM_63 kb_X9_tempts ki_X9_tempts ks_X9_tempts km_L_91 ⟨(Nat.le_of_ble_eq_true rfl), (Nat.le_of_ble_eq_true rfl), rfl, rfl⟩ hl.1 rfl (Nat.le_of_ble_eq_true rfl) ⟨(Nat.le_of_ble_eq_true rfl), (Nat.le_of_ble_eq_true rfl)⟩ dL_at_63 (fun H locs ce q9 hk hI h1 h2 h3 => ?_) (fun H locs hk hI => ?_)
            · have h := (if_neg hk).symm.trans h
              have h := Option.some.inj h
              subst h
              rcases Decidable.not_not.mp g_63 with h0 | h0
              · exact absurd h0 hk
              · rw [h0] at h3
                refine vx_catch (own := RL) (name := "java/lang/IndexOutOfBoundsException") F.1.2.2.2.1 [] ⟨0, 112, 113, 33⟩ [] htab (fun _ h => nomatch h) rfl (by decide) (F.1.2.2.2.2 _ kl_L_33) (va_Nw.use rfl X.1.2.2.2.2.1) h1 h2 h3 ?_
                refine lv_astore (lv' := [(4, .ref q9), (0, .ref (a 0)), (1, .int x1), (2, .int x2), (3, .int x3)]) hx hb dL_at_113 hl (by decide) rfl (fun ls hl => ?_)
                refine lv_bipush (v := -8) hx hb dL_at_115 (by decide) ?_
                exact hq _ _ _ _ _ _ (Nat.le_of_ble_eq_true rfl) (Nat.le_of_ble_eq_true rfl) hI dL_at_117
            have h := (if_pos hk).symm.trans h
            refine lv_if_eq (tgt := 73) hx hb dL_at_66 (by decide) (fun c_66 => ?_) (fun c_66 => ?_)
            · have h := (if_pos c_66).symm.trans h
              refine lv_iconst (v := 0) hx hb dL_at_73 (by decide) ?_
              refine lv_goto (tgt := 112) hx hb dL_at_74 (by decide) ?_
              have h := Option.some.inj h
              subst h
              exact hq _ _ _ _ _ _ (Nat.le_of_ble_eq_true rfl) (Nat.le_of_ble_eq_true rfl) hI dL_at_112
            · have h := (if_neg c_66).symm.trans h
              refine lv_iconst (v := 1) hx hb dL_at_69 (by decide) ?_
              refine lv_goto (tgt := 112) hx hb dL_at_70 (by decide) ?_
              have h := Option.some.inj h
              subst h
              exact hq _ _ _ _ _ _ (Nat.le_of_ble_eq_true rfl) (Nat.le_of_ble_eq_true rfl) hI dL_at_112
        · have h := (if_pos c_43).symm.trans h
          refine lv_aload_n hx hb dL_at_46 rfl (lv_at hl 0 rfl) ?_
          refine lv_iload_n hx hb dL_at_47 rfl (lv_at hl 2 rfl) ?_
          refine lv_iload_n hx hb dL_at_48 rfl (lv_at hl 3 rfl) ?_
          obtain ⟨q_49, e_49, h⟩ := gBind_in h
          obtain ⟨g_49, h⟩ := g_guard h
          have hM_49 := c_X9_climb l D a cI F.2.2 hlt sa N σ x2 x3 q_49 e_49
          refine g_callXWi (σ' := q_49.2.2) (k := q_49.1) (r := q_49.2.1) (As := [.int x2, .int x3]) (rest := []) F X hI hM_49 kb_X9_climb ki_X9_climb ks_X9_climb km_L_88 ⟨(Nat.le_of_ble_eq_true rfl), (Nat.le_of_ble_eq_true rfl), rfl, rfl⟩ hl.1 rfl (Nat.le_of_ble_eq_true rfl) ⟨(Nat.le_of_ble_eq_true rfl), (Nat.le_of_ble_eq_true rfl)⟩ dL_at_49 (fun H locs ce q9 hk hI h1 h2 h3 => ?_) (fun H locs hk hI => ?_)
          · have h := (if_neg hk).symm.trans h
            have h := Option.some.inj h
            subst h
            rcases Decidable.not_not.mp g_49 with h0 | h0
            · exact absurd h0 hk
            · rw [h0] at h3
              refine vx_catch (own := RL) (name := "java/lang/IndexOutOfBoundsException") F.1.2.2.2.1 [] ⟨0, 112, 113, 33⟩ [] htab (fun _ h => nomatch h) rfl (by decide) (F.1.2.2.2.2 _ kl_L_33) (va_Nw.use rfl X.1.2.2.2.2.1) h1 h2 h3 ?_
              refine lv_astore (lv' := [(4, .ref q9), (0, .ref (a 0)), (1, .int x1), (2, .int x2), (3, .int x3)]) hx hb dL_at_113 hl (by decide) rfl (fun ls hl => ?_)
              refine lv_bipush (v := -8) hx hb dL_at_115 (by decide) ?_
              exact hq _ _ _ _ _ _ (Nat.le_of_ble_eq_true rfl) (Nat.le_of_ble_eq_true rfl) hI dL_at_117
          have h := (if_pos hk).symm.trans h
          refine lv_goto (tgt := 112) hx hb dL_at_52 (by decide) ?_
          have h := Option.some.inj h
          subst h
          exact hq _ _ _ _ _ _ (Nat.le_of_ble_eq_true rfl) (Nat.le_of_ble_eq_true rfl) hI dL_at_112
      · have h := (if_pos c_29).symm.trans h
        refine lv_aload_n hx hb dL_at_32 rfl (lv_at hl 0 rfl) ?_
        refine lv_iload_n hx hb dL_at_33 rfl (lv_at hl 2 rfl) ?_
        refine lv_iload_n hx hb dL_at_34 rfl (lv_at hl 3 rfl) ?_
        obtain ⟨q_35, e_35, h⟩ := gBind_in h
        obtain ⟨g_35, h⟩ := g_guard h
        have hM_35 := c_X9_costByCells l D a cI F.2.2 hlt sa N σ x2 x3 q_35 e_35
        refine g_callXWi (σ' := q_35.2.2) (k := q_35.1) (r := q_35.2.1) (As := [.int x2, .int x3]) (rest := []) F X hI hM_35 kb_X9_costByCells ki_X9_costByCells ks_X9_costByCells km_L_85 ⟨(Nat.le_of_ble_eq_true rfl), (Nat.le_of_ble_eq_true rfl), rfl, rfl⟩ hl.1 rfl (Nat.le_of_ble_eq_true rfl) ⟨(Nat.le_of_ble_eq_true rfl), (Nat.le_of_ble_eq_true rfl)⟩ dL_at_35 (fun H locs ce q9 hk hI h1 h2 h3 => ?_) (fun H locs hk hI => ?_)
        · have h := (if_neg hk).symm.trans h
          have h := Option.some.inj h
          subst h
          rcases Decidable.not_not.mp g_35 with h0 | h0
          · exact absurd h0 hk
          · rw [h0] at h3
            refine vx_catch (own := RL) (name := "java/lang/IndexOutOfBoundsException") F.1.2.2.2.1 [] ⟨0, 112, 113, 33⟩ [] htab (fun _ h => nomatch h) rfl (by decide) (F.1.2.2.2.2 _ kl_L_33) (va_Nw.use rfl X.1.2.2.2.2.1) h1 h2 h3 ?_
            refine lv_astore (lv' := [(4, .ref q9), (0, .ref (a 0)), (1, .int x1), (2, .int x2), (3, .int x3)]) hx hb dL_at_113 hl (by decide) rfl (fun ls hl => ?_)
            refine lv_bipush (v := -8) hx hb dL_at_115 (by decide) ?_
            exact hq _ _ _ _ _ _ (Nat.le_of_ble_eq_true rfl) (Nat.le_of_ble_eq_true rfl) hI dL_at_117
        have h := (if_pos hk).symm.trans h
        refine lv_goto (tgt := 112) hx hb dL_at_38 (by decide) ?_
        have h := Option.some.inj h
        subst h
        exact hq _ _ _ _ _ _ (Nat.le_of_ble_eq_true rfl) (Nat.le_of_ble_eq_true rfl) hI dL_at_112
    · have h := (if_pos c_15).symm.trans h
      refine lv_aload_n hx hb dL_at_18 rfl (lv_at hl 0 rfl) ?_
      refine lv_iload_n hx hb dL_at_19 rfl (lv_at hl 2 rfl) ?_
      refine lv_iload_n hx hb dL_at_20 rfl (lv_at hl 3 rfl) ?_
      obtain ⟨q_21, e_21, h⟩ := gBind_in h
      obtain ⟨g_21, h⟩ := g_guard h
      have hM_21 := c_X9_cost l D a cI F.2.2 hlt sa N σ x2 x3 q_21 e_21
      refine g_callXWi (σ' := q_21.2.2) (k := q_21.1) (r := q_21.2.1) (As := [.int x2, .int x3]) (rest := []) F X hI hM_21 kb_X9_cost ki_X9_cost ks_X9_cost km_L_82 ⟨(Nat.le_of_ble_eq_true rfl), (Nat.le_of_ble_eq_true rfl), rfl, rfl⟩ hl.1 rfl (Nat.le_of_ble_eq_true rfl) ⟨(Nat.le_of_ble_eq_true rfl), (Nat.le_of_ble_eq_true rfl)⟩ dL_at_21 (fun H locs ce q9 hk hI h1 h2 h3 => ?_) (fun H locs hk hI => ?_)
      · have h := (if_neg hk).symm.trans h
        have h := Option.some.inj h
        subst h
        rcases Decidable.not_not.mp g_21 with h0 | h0
        · exact absurd h0 hk
        · rw [h0] at h3
          refine vx_catch (own := RL) (name := "java/lang/IndexOutOfBoundsException") F.1.2.2.2.1 [] ⟨0, 112, 113, 33⟩ [] htab (fun _ h => nomatch h) rfl (by decide) (F.1.2.2.2.2 _ kl_L_33) (va_Nw.use rfl X.1.2.2.2.2.1) h1 h2 h3 ?_
          refine lv_astore (lv' := [(4, .ref q9), (0, .ref (a 0)), (1, .int x1), (2, .int x2), (3, .int x3)]) hx hb dL_at_113 hl (by decide) rfl (fun ls hl => ?_)
          refine lv_bipush (v := -8) hx hb dL_at_115 (by decide) ?_
          exact hq _ _ _ _ _ _ (Nat.le_of_ble_eq_true rfl) (Nat.le_of_ble_eq_true rfl) hI dL_at_117
      have h := (if_pos hk).symm.trans h
      refine lv_goto (tgt := 112) hx hb dL_at_24 (by decide) ?_
      have h := Option.some.inj h
      subst h
      exact hq _ _ _ _ _ _ (Nat.le_of_ble_eq_true rfl) (Nat.le_of_ble_eq_true rfl) hI dL_at_112
  · have h := (if_pos c_1).symm.trans h
    refine lv_aload_n hx hb dL_at_4 rfl (lv_at hl 0 rfl) ?_
    refine lv_iload_n hx hb dL_at_5 rfl (lv_at hl 2 rfl) ?_
    refine lv_iload_n hx hb dL_at_6 rfl (lv_at hl 3 rfl) ?_
    obtain ⟨q_7, e_7, h⟩ := gBind_in h
    obtain ⟨g_7, h⟩ := g_guard h
    have hM_7 := c_X9_cell l D a cI F.2.2 hlt sa σ x2 x3
    rw [Option.some.inj e_7] at hM_7
    refine g_callXWi (σ' := q_7.2.2) (k := q_7.1) (r := q_7.2.1) (As := [.int x2, .int x3]) (rest := []) F X hI hM_7 kb_X9_cell ki_X9_cell ks_X9_cell km_L_79 ⟨(Nat.le_of_ble_eq_true rfl), (Nat.le_of_ble_eq_true rfl), rfl, rfl⟩ hl.1 rfl (Nat.le_of_ble_eq_true rfl) ⟨(Nat.le_of_ble_eq_true rfl), (Nat.le_of_ble_eq_true rfl)⟩ dL_at_7 (fun H locs ce q9 hk hI h1 h2 h3 => ?_) (fun H locs hk hI => ?_)
    · have h := (if_neg hk).symm.trans h
      have h := Option.some.inj h
      subst h
      rcases Decidable.not_not.mp g_7 with h0 | h0
      · exact absurd h0 hk
      · rw [h0] at h3
        refine vx_catch (own := RL) (name := "java/lang/IndexOutOfBoundsException") F.1.2.2.2.1 [] ⟨0, 112, 113, 33⟩ [] htab (fun _ h => nomatch h) rfl (by decide) (F.1.2.2.2.2 _ kl_L_33) (va_Nw.use rfl X.1.2.2.2.2.1) h1 h2 h3 ?_
        refine lv_astore (lv' := [(4, .ref q9), (0, .ref (a 0)), (1, .int x1), (2, .int x2), (3, .int x3)]) hx hb dL_at_113 hl (by decide) rfl (fun ls hl => ?_)
        refine lv_bipush (v := -8) hx hb dL_at_115 (by decide) ?_
        exact hq _ _ _ _ _ _ (Nat.le_of_ble_eq_true rfl) (Nat.le_of_ble_eq_true rfl) hI dL_at_117
    have h := (if_pos hk).symm.trans h
    refine lv_goto (tgt := 112) hx hb dL_at_10 (by decide) ?_
    have h := Option.some.inj h
    subst h
    exact hq _ _ _ _ _ _ (Nat.le_of_ble_eq_true rfl) (Nat.le_of_ble_eq_true rfl) hI dL_at_112
