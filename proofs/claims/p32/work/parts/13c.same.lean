/-! same: a body of the law over both clubs -/
def g_PcM (D : va_G) (a : Nat → Nat) (E : Nat → va_E) (tys : List (ClassId × FieldType)) (sa : Nat → Nat) (av : List Value) : Array Value → State → Prop := va_Pc av (fun U => va_P D vwCl (g_wl 131 a E) U.heap ∧ va_K D vwCl tys U ∧ gXV sa U ∧ gXA (g_Own 131 a) U U.heap ∧ gNC U)
theorem g_blindM {D : va_G} {a : Nat → Nat} {E : Nat → va_E} {tys : List (ClassId × FieldType)} {sa : Nat → Nat} {av : List Value} : FrameBlind (g_PcM D a E tys sa av) := fun aa U g mk q => ⟨q.1, q.2.1, va_K.moved (u := U) (U := U.calling g mk aa) (Vm.Alike.refl U.vm) q.2.2.1, gXV.same (u := U) (U := U.calling g mk aa) rfl q.2.2.2.1, gXA.moved (u := U) (U := U.calling g mk aa) (Vm.Alike.refl U.vm) q.2.2.2.2.1, gNC.moved (u := U) (U := U.calling g mk aa) (Vm.Alike.refl U.vm) q.2.2.2.2.2⟩
theorem g_metM {l : Launch} {y : MethodName} {cc : ByteArray} {maxL : Nat} {rm : Room} {D : va_G} {a : Nat → Nat} {E E' : Nat → va_E} {cI : ClassId} {av : List Value} {sa : Nat → Nat} {mc ms : Nat} {r : Int32} (hy : plainName y.cls = true ∧ y.cls = RL) (hj : g_Inj 131 a) (hlt : l.stackTraces = false) (hn : (lg_sl av).length ≤ maxL)
    (body : ∀ (p : Program) (e : Env) (s : State) (m : MethodId) (args : Array Value) (below : List Frame) (meth : Method) (c : Code) (Q : State → Prop) (ls : Array Slot), g_LF (g_Own 131 a) p l m c cc maxL s args D a cI sa → lv_has ls maxL (lv_args 0 av) → g_LS (g_Own 131 a) D a E s s.heap [] →
      (∀ (H1 : Heap) (locs1 : List Loc) (pc1 : Nat) (ls1 : Array Slot) (cl sl : Nat) (v : Int32), v &&& 1 = r → cl ≤ mc → sl ≤ ms → g_LS (g_Own 131 a) D a E' s H1 locs1 → decode cc pc1 = .ok (.ireturn, 1) → W p l e rm s m args below meth c H1 locs1 cl sl Q (F0 m pc1 ls1 [.int v])) → W p l e rm s m args below meth c s.heap [] 0 0 Q (F0 m 0 ls [])) :
    Met l y (Cond.code y cc maxL (some .boolean) :: gW) rm (g_PcM D a E [(cI, .int)] sa av) (g_Qi 131 D a E' r) mc ms (g_Own 131 a) := by
  refine Met.ofW (cc := cc) (maxL := maxL) (ret := some .boolean) hy.1 rfl ?_
  intro p e s m args below meth c s₁ B hml hv
  obtain ⟨rfl, hP, hK, hX, hA, hN⟩ := hv
  have hts := atoms_spec (ws := Cond.code y cc maxL (some .boolean) :: gW) B.pre
  have hl := lv_entry av (n := maxL) hn
  rw [lg_entry_eq]
  generalize (lg_sl av ++ List.replicate (maxL - (lg_sl av).length) Slot.unset).toArray = ls at hl ⊢
  refine body p e s m _ below meth c _ ls ⟨⟨B.exec, B.bytes, hml, by rw [← hy.2]; exact findClass_of_methodNamed B.named, fun w h => hts w (List.mem_cons_of_mem _ h)⟩, hK, hj, fun k h => ⟨k, h, rfl⟩, hX, hA, hN, hlt⟩ hl ⟨hP, va_S.rf⟩ (fun H1 locs1 pc1 ls1 cl sl v hv hc hs hS hd => ?_)
  exact W.widen hc hs (g_zret (v := v) B.exec B.bytes B.returns (fun t ht hW => ⟨⟨r, (), by rw [hv], rfl, by show va_P D vwCl (g_wl 131 a E') t.heap; rw [ht]; exact hS.1⟩, hS.2.F ht⟩) hS.2.2.2 hd B.notSynchronized)
section GLS
variable {p : Program} {l : Launch} {e : Env} {R : Room} {s : State} {m : MethodId} {args : Array Value} {below : List Frame} {meth : Method} {c : Code} {H : Heap} {locs : List Loc} {cells slots : Nat} {Q : State → Prop} {cc : ByteArray} {nL : Nat} {own : String} {D : va_G} {tys : List (ClassId × FieldType)} {a : Nat → Nat} {pc : Nat} {ls : Array Slot} {rest : List Value} {cI : ClassId} {y : MethodName} {bytes : ByteArray} {maxL index mc ms : Nat} {rm : Room} {As : List Value} {r : Int32} {st0 : List Value} {ret : Option FieldType} {sa : Nat → Nat} {A : Nat → Prop} {S S' : lSt}
/-- a body over both clubs, called from the law -/
theorem g_lsame (F : g_LF A p l m c cc nL s args D a cI sa) (hI : g_LS A D a (lE a cI S) s H locs) (hM : Met l y (Cond.code y bytes maxL ret :: gW) rm (g_PcM D a (lE a cI S) [(cI, .int)] sa As) (g_Qi 131 D a (lE a cI S') r) mc ms (g_Own 131 a)) (hb : g_CB y bytes maxL ret As.length) (hst : Cond.static y ∈ gW) (h1 : Cond.methodLink RL index y ∈ gW) (hR : rm.frames + 1 ≤ R.frames ∧ 8 + (maxL + 11) + rm.locals ≤ R.locals ∧ rm.cells = mc ∧ rm.slots = ms)
    (hls : ls.size = nL) (hstk : st0 = As.reverse ++ rest) (hW : (rest.map fun v => v.category).sum ≤ 8) (hcs : cells + mc ≤ R.cells ∧ slots + ms ≤ R.slots) (hdg : decode cc pc = .ok (.invokestatic index, 3))
    (kk : ∀ (H1 : Heap) (locs1 : List Loc), g_LS A D a (lE a cI S') s H1 locs1 → W p l e R s m args below meth c H1 locs1 (cells + mc) (slots + ms) Q (F0 m (pc + 3) ls (.int r :: rest))) : W p l e R s m args below meth c H locs cells slots Q (F0 m pc ls st0) := by
  have hG := F.1.2.2.2.2
  have cb := g_cb (R := R) (s := s) (args := args) (rm := rm) hG hb h1 ⟨hR.1, hR.2.1⟩
  rw [hR.2.2.1, hR.2.2.2] at cb
  have ho : ∀ q, g_Own 131 a q → A q := fun q ⟨k, h1, h2⟩ => by rw [h2]; exact F.2.2.2.1 k h1
  refine va_calli (va_runS (As := As) (rest := rest) F.1 hM ⟨cb, hG _ hst⟩ ⟨g_blindM, fun U hU hW => ⟨rfl, by rw [hU]; exact hI.1, va_K.moved hW.alike F.2.1, gXV.warm hW F.2.2.2.2.1, by rw [hU]; exact gXA.moved hW.alike (gXA.narrow (gXA.kept F.2.2.2.2.2.1 hI.2.2.1) ho), gNC.moved hW.alike F.2.2.2.2.2.2.1⟩⟩ rfl rfl hls hstk (lv_room hW) hdg hcs) hI.2 (fun q _ h => ho q h) ho (fun r1 u t H1 locs1 ht hvm hw hB hz hk hS => ?_)
  have hw : r1 = r := hw
  subst hw
  rw [ht] at hB
  exact kk H1 locs1 ⟨hB, hS⟩
end GLS
/-- SpurlineLaw.same -/
def h_same (N : Nat) (S : lSt) (x3 : Int32) : Option (Int32 × lSt) :=
  gJoin2 (fun (w0_62 : Int32) (s_62 : lSt) =>
      gJoin1 (fun (w0_79 : Int32) =>
          gLoop3 (fun self84 (v4_84 : Int32) (v6_84 : Int32) (s_84 : lSt) =>
            gJoin0 (
                gLoop3 (fun self164 (v4_164 : Int32) (v6_164 : Int32) (s_164 : lSt) =>
                  if 8 ≤ v6_164 then
                    some (v4_164 &&& 1, s_164)
                  else
                    if v4_164 = 0 then
                      some (v4_164 &&& 1, s_164)
                    else
                      gJoin1 (fun (w0_206 : Int32) =>
                          (h_at N s_164.1 v6_164 w0_206 ((x3 / 91) - (x3 / 91) / 6 * 6)).bind (fun (q_220 : Int32 × gSt) =>
                          (h_at N s_164.2.1 v6_164 w0_206 ((x3 / 91) - (x3 / 91) / 6 * 6)).bind (fun (q_235 : Int32 × gSt) =>
                          gJoin1 (fun (w0_246 : Int32) =>
                              self164 w0_246 (v6_164 + 1) (q_220.2, q_235.2, s_164.2.2)) (fun j246 =>
                            if q_220.1 = q_235.1 then
                              j246 1
                            else
                              j246 0)))) (fun j206 =>
                        if 5 ≤ v6_164 then
                          if v6_164 = 5 then
                            j206 (x3 - x3 / 5 * 5)
                          else
                            j206 w0_79
                        else
                          j206 ((x3 / 7) - (x3 / 7) / 6 * 6))) 8 v4_84 1 s_84) (fun j161 =>
              if 9 ≤ v6_84 then
                j161
              else
                if v4_84 = 0 then
                  j161
                else
                  gJoin1 (fun (w0_127 : Int32) =>
                      (h_of N s_84.1 v6_84 w0_127).bind (fun (q_134 : Int32 × gSt) =>
                      (h_of N s_84.2.1 v6_84 w0_127).bind (fun (q_142 : Int32 × gSt) =>
                      gJoin1 (fun (w0_153 : Int32) =>
                          self84 w0_153 (v6_84 + 1) (q_134.2, q_142.2, s_84.2.2)) (fun j153 =>
                        if q_134.1 = q_142.1 then
                          j153 1
                        else
                          j153 0)))) (fun j127 =>
                    if 3 ≤ v6_84 then
                      if 5 ≤ v6_84 then
                        j127 w0_79
                      else
                        j127 (x3 - x3 / 5 * 5)
                    else
                      j127 (1 + ((x3 / 5) - (x3 / 5) / 60 * 60))))) 10 w0_62 0 s_62) (fun j79 =>
        if s_62.2.2 0 = 0 then
          j79 0
        else
          if s_62.2.2 0 = 0 then none else
          j79 (x3 - x3 / (s_62.2.2 0) * (s_62.2.2 0)))) (fun j62 =>
  gJoin1 (fun (s_61 : lSt) =>
      j62 0 s_61) (fun j61 =>
    if f_X9_runners S.1 = f_X9_runners S.2.1 then
      (f_X9_spread N S.1).bind (fun (q_12 : Int32 × gSt) =>
      (f_X9_spread N S.2.1).bind (fun (q_16 : Int32 × gSt) =>
      if q_12.1 = q_16.1 then
        (h_at N q_12.2 0 (x3 - x3 / 12 * 12) ((x3 / 12) - (x3 / 12) / 12 * 12)).bind (fun (q_35 : Int32 × gSt) =>
        (h_at N q_16.2 0 ((x3 / 12) - (x3 / 12) / 12 * 12) (x3 - x3 / 12 * 12)).bind (fun (q_51 : Int32 × gSt) =>
        if q_35.1 = q_51.1 then
          j62 1 (q_35.2, q_51.2, S.2.2)
        else
          j61 (q_35.2, q_51.2, S.2.2)))
      else
        j61 (q_12.2, q_16.2, S.2.2)))
    else
      j61 S))
abbrev rmL_same : Room := { frames := 10, cells := 56, slots := 336, locals := 189 }
theorem kb_L_same : g_CB yL_same cL_same 8 (some .boolean) 4 := ⟨kc_L_same, kn_L, by decide +kernel⟩
set_option maxRecDepth 100000 in
set_option maxHeartbeats 16000000 in
theorem c_L_same (l : Launch) (D : va_G) (a : Nat → Nat) (cI : ClassId) (hj : g_Inj 131 a) (hlt : l.stackTraces = false) (sa : Nat → Nat) (N : Nat) (S : lSt) (x3 : Int32) (out : Int32 × lSt) (hh : h_same N S x3 = some out) : Met l yL_same (Cond.code yL_same cL_same 8 (some .boolean) :: gW) rmL_same (g_PcM D a (lE a cI S) [(cI, .int)] sa [.ref (a 0), .ref (a 65), .ref (a 130), .int x3]) (g_Qi 131 D a (lE a cI out.2) out.1) 56 336 (g_Own 131 a) := by
  refine g_metM ⟨by decide, rfl⟩ hj hlt (Nat.le_of_ble_eq_true rfl) ?_
  intro p e s m args below meth c Q ls F hl hI hq
  have hx := F.1.1
  have hb := F.1.2.1
  have hl : lv_has ls 8 [(0, .ref (a 0)), (1, .ref (a 65)), (2, .ref (a 130)), (3, .int x3)] := hl
  have h := hh
  unfold h_same at h
  refine lv_aload_n hx hb dL_same_0 rfl (lv_at hl 0 rfl) ?_
  refine g_ldA (S := S) (σ' := S.1) (As := []) (rest := []) F hI (c_X9_runners l D a cI (g_inj_sub (by decide) F.2.2.1) S.1) kb_X9_runners ki_X9_runners ks_X9_runners km_L_104 ⟨(Nat.le_of_ble_eq_true rfl), (Nat.le_of_ble_eq_true rfl), rfl, rfl⟩ hl.1 rfl (Nat.le_of_ble_eq_true rfl) ⟨(by show _ ≤ 56; omega), (by show _ ≤ 336; omega)⟩ dL_same_1 (fun H locs hI => ?_)
  have hI : g_LS (g_Own 131 a) D a (lE a cI S) s H locs := hI
  refine lv_aload_n hx hb dL_same_4 rfl (lv_at hl 1 rfl) ?_
  refine g_ldB (S := S) (σ' := S.2.1) (As := []) (rest := [.int (f_X9_runners S.1)]) F hI (c_X9_runners l D (bA a) cI (g_inj_b F.2.2.1) S.2.1) kb_X9_runners ki_X9_runners ks_X9_runners km_L_104 ⟨(Nat.le_of_ble_eq_true rfl), (Nat.le_of_ble_eq_true rfl), rfl, rfl⟩ hl.1 rfl (Nat.le_of_ble_eq_true rfl) ⟨(by show _ ≤ 56; omega), (by show _ ≤ 336; omega)⟩ dL_same_5 (fun H locs hI => ?_)
  have hI : g_LS (g_Own 131 a) D a (lE a cI S) s H locs := hI
  obtain ⟨j62, hj62, h⟩ := gJoin2_in h
  have J62 : ∀ (w0_62 : Int32) (s_62 : lSt) (H : Heap) (locs : List Loc) (ls : Array Slot), j62 w0_62 s_62 = some out → g_LS (g_Own 131 a) D a (lE a cI s_62) s H locs → lv_has ls 8 [(0, .ref (a 0)), (1, .ref (a 65)), (2, .ref (a 130)), (3, .int x3)] → W p l e rmL_same s m args below meth c H locs 4 24 Q (F0 m 62 ls [.int w0_62]) := by
    intro w0_62 s_62 H locs ls h hI hl
    rw [hj62] at h
    refine lv_istore (lv' := [(4, .int w0_62), (0, .ref (a 0)), (1, .ref (a 65)), (2, .ref (a 130)), (3, .int x3)]) hx hb dL_same_62 hl (by decide) rfl (fun ls hl => ?_)
    refine lv_aload_n hx hb dL_same_64 rfl (lv_at hl 3 rfl) ?_
    refine lv_iconst (v := 0) hx hb dL_same_65 (by decide) ?_
    refine g_lald F hI dL_same_66 ?_
    obtain ⟨j79, hj79, h⟩ := gJoin1_in h
    have J79 : ∀ (w0_79 : Int32) (H : Heap) (locs : List Loc) (ls : Array Slot), j79 w0_79 = some out → g_LS (g_Own 131 a) D a (lE a cI s_62) s H locs → lv_has ls 8 [(0, .ref (a 0)), (1, .ref (a 65)), (3, .int x3), (4, .int w0_62)] → W p l e rmL_same s m args below meth c H locs 4 24 Q (F0 m 79 ls [.int w0_79]) := by
      intro w0_79 H locs ls h hI hl
      rw [hj79] at h
      refine lv_istore (lv' := [(5, .int w0_79), (0, .ref (a 0)), (1, .ref (a 65)), (3, .int x3), (4, .int w0_62)]) hx hb dL_same_79 hl (by decide) rfl (fun ls hl => ?_)
      refine lv_iconst (v := 0) hx hb dL_same_81 (by decide) ?_
      refine lv_istore (lv' := [(6, .int 0), (5, .int w0_79), (0, .ref (a 0)), (1, .ref (a 65)), (3, .int x3), (4, .int w0_62)]) hx hb dL_same_82 hl (by decide) rfl (fun ls hl => ?_)
      obtain ⟨lp84, hz84, hs84, h⟩ := gLoop3_in h
      have L84 : ∀ (n84 : Nat), n84 ≤ 10 → ∀ (v4_84 : Int32) (v6_84 : Int32) (s_84 : lSt) (H : Heap) (locs : List Loc) (ls : Array Slot), lp84 n84 v4_84 v6_84 s_84 = some out → g_LS (g_Own 131 a) D a (lE a cI s_84) s H locs → lv_has ls 8 [(0, .ref (a 0)), (1, .ref (a 65)), (3, .int x3), (4, .int v4_84), (5, .int w0_79), (6, .int v6_84)] → W p l e rmL_same s m args below meth c H locs (4 + 2 * (10 - n84) + 0) (24 + 12 * (10 - n84) + 0) Q (F0 m 84 ls []) := by
        intro n84
        induction n84 with
        | zero => intro hn84 v4_84 v6_84 s_84 H locs ls h; rw [hz84] at h; cases h
        | succ n84 ih84 =>
          intro hn84 v4_84 v6_84 s_84 H locs ls h hI hl
          rw [hs84] at h
          refine lv_iload hx hb dL_same_84 (lv_at hl 5 rfl) ?_
          refine lv_bipush (v := 9) hx hb dL_same_86 (by decide) ?_
          obtain ⟨j161, hj161, h⟩ := gJoin0_in h
          have J161 : ∀ (H : Heap) (locs : List Loc) (ls : Array Slot), j161  = some out → g_LS (g_Own 131 a) D a (lE a cI s_84) s H locs → lv_has ls 8 [(0, .ref (a 0)), (1, .ref (a 65)), (3, .int x3), (4, .int v4_84), (5, .int w0_79)] → W p l e rmL_same s m args below meth c H locs 24 144 Q (F0 m 161 ls []) := by
            intro  H locs ls h hI hl
            rw [hj161] at h
            refine lv_iconst (v := 1) hx hb dL_same_161 (by decide) ?_
            refine lv_istore (lv' := [(6, .int 1), (0, .ref (a 0)), (1, .ref (a 65)), (3, .int x3), (4, .int v4_84), (5, .int w0_79)]) hx hb dL_same_162 hl (by decide) rfl (fun ls hl => ?_)
            obtain ⟨lp164, hz164, hs164, h⟩ := gLoop3_in h
            have L164 : ∀ (n164 : Nat), n164 ≤ 8 → ∀ (v4_164 : Int32) (v6_164 : Int32) (s_164 : lSt) (H : Heap) (locs : List Loc) (ls : Array Slot), lp164 n164 v4_164 v6_164 s_164 = some out → g_LS (g_Own 131 a) D a (lE a cI s_164) s H locs → lv_has ls 8 [(0, .ref (a 0)), (1, .ref (a 65)), (3, .int x3), (4, .int v4_164), (5, .int w0_79), (6, .int v6_164)] → W p l e rmL_same s m args below meth c H locs (24 + 4 * (8 - n164) + 0) (144 + 24 * (8 - n164) + 0) Q (F0 m 164 ls []) := by
              intro n164
              induction n164 with
              | zero => intro hn164 v4_164 v6_164 s_164 H locs ls h; rw [hz164] at h; cases h
              | succ n164 ih164 =>
                intro hn164 v4_164 v6_164 s_164 H locs ls h hI hl
                rw [hs164] at h
                refine lv_iload hx hb dL_same_164 (lv_at hl 5 rfl) ?_
                refine lv_bipush (v := 8) hx hb dL_same_166 (by decide) ?_
                refine lv_icmp_ge (tgt := 254) hx hb dL_same_168 (by decide) (fun c_168 => ?_) (fun c_168 => ?_)
                · have h := (if_pos c_168).symm.trans h
                  refine lv_iload hx hb dL_same_254 (lv_at hl 3 rfl) ?_
                  have h := Option.some.inj h
                  subst h
                  exact hq _ _ _ _ _ _ _ rfl (by omega) (by omega) hI dL_same_256
                · have h := (if_neg c_168).symm.trans h
                  refine lv_iload hx hb dL_same_171 (lv_at hl 3 rfl) ?_
                  refine lv_if_eq (tgt := 254) hx hb dL_same_173 (by decide) (fun c_173 => ?_) (fun c_173 => ?_)
                  · have h := (if_pos c_173).symm.trans h
                    refine lv_iload hx hb dL_same_254 (lv_at hl 3 rfl) ?_
                    have h := Option.some.inj h
                    subst h
                    exact hq _ _ _ _ _ _ _ rfl (by omega) (by omega) hI dL_same_256
                  · have h := (if_neg c_173).symm.trans h
                    refine lv_iload hx hb dL_same_176 (lv_at hl 5 rfl) ?_
                    refine lv_iconst (v := 5) hx hb dL_same_178 (by decide) ?_
                    obtain ⟨j206, hj206, h⟩ := gJoin1_in h
                    have J206 : ∀ (w0_206 : Int32) (H : Heap) (locs : List Loc) (ls : Array Slot), j206 w0_206 = some out → g_LS (g_Own 131 a) D a (lE a cI s_164) s H locs → lv_has ls 8 [(0, .ref (a 0)), (1, .ref (a 65)), (3, .int x3), (5, .int w0_79), (6, .int v6_164)] → W p l e rmL_same s m args below meth c H locs (24 + 4 * (8 - (n164 + 1)) + 0) (144 + 24 * (8 - (n164 + 1)) + 0) Q (F0 m 206 ls [.int w0_206]) := by
                      intro w0_206 H locs ls h hI hl
                      rw [hj206] at h
                      refine lv_istore (lv' := [(7, .int w0_206), (0, .ref (a 0)), (1, .ref (a 65)), (3, .int x3), (5, .int w0_79), (6, .int v6_164)]) hx hb dL_same_206 hl (by decide) rfl (fun ls hl => ?_)
                      refine lv_aload_n hx hb dL_same_208 rfl (lv_at hl 1 rfl) ?_
                      refine lv_iload hx hb dL_same_209 (lv_at hl 5 rfl) ?_
                      refine lv_iload hx hb dL_same_211 (lv_at hl 0 rfl) ?_
                      refine lv_iload_n hx hb dL_same_213 rfl (lv_at hl 3 rfl) ?_
                      refine lv_bipush (v := 91) hx hb dL_same_214 (by decide) ?_
                      refine lv_idiv hx hb dL_same_216 (by decide) ?_
                      refine lv_bipush (v := 6) hx hb dL_same_217 (by decide) ?_
                      refine lv_irem hx hb dL_same_219 (by decide) ?_
                      obtain ⟨q_220, e_220, h⟩ := gBind_in h
                      refine g_lcA (S := s_164) (σ' := q_220.2) (r := q_220.1) (As := [.ref (a 0), .int v6_164, .int w0_206, .int ((x3 / 91) - (x3 / 91) / 6 * 6)]) (rest := []) F hI (c_L_at l D a cI (g_inj_sub (by decide) F.2.2.1) F.2.2.2.2.2.2.2 sa N s_164.1 v6_164 w0_206 ((x3 / 91) - (x3 / 91) / 6 * 6) q_220 e_220) kh_L_at kn_L kd_L_at kt_L_at km_L_111 ⟨(Nat.le_of_ble_eq_true rfl), (Nat.le_of_ble_eq_true rfl), rfl, rfl⟩ hl.1 rfl (Nat.le_of_ble_eq_true rfl) ⟨(by show _ ≤ 56; omega), (by show _ ≤ 336; omega)⟩ dL_same_220 (fun H locs hI => ?_)
                      have hI : g_LS (g_Own 131 a) D a (lE a cI (q_220.2, s_164.2.1, s_164.2.2)) s H locs := hI
                      refine lv_aload_n hx hb dL_same_223 rfl (lv_at hl 2 rfl) ?_
                      refine lv_iload hx hb dL_same_224 (lv_at hl 5 rfl) ?_
                      refine lv_iload hx hb dL_same_226 (lv_at hl 0 rfl) ?_
                      refine lv_iload_n hx hb dL_same_228 rfl (lv_at hl 3 rfl) ?_
                      refine lv_bipush (v := 91) hx hb dL_same_229 (by decide) ?_
                      refine lv_idiv hx hb dL_same_231 (by decide) ?_
                      refine lv_bipush (v := 6) hx hb dL_same_232 (by decide) ?_
                      refine lv_irem hx hb dL_same_234 (by decide) ?_
                      obtain ⟨q_235, e_235, h⟩ := gBind_in h
                      refine g_lcB (S := (q_220.2, s_164.2.1, s_164.2.2)) (σ' := q_235.2) (r := q_235.1) (As := [.ref (a 65), .int v6_164, .int w0_206, .int ((x3 / 91) - (x3 / 91) / 6 * 6)]) (rest := [.int q_220.1]) F hI (c_L_at l D (bA a) cI (g_inj_b F.2.2.1) F.2.2.2.2.2.2.2 sa N s_164.2.1 v6_164 w0_206 ((x3 / 91) - (x3 / 91) / 6 * 6) q_235 e_235) kh_L_at kn_L kd_L_at kt_L_at km_L_111 ⟨(Nat.le_of_ble_eq_true rfl), (Nat.le_of_ble_eq_true rfl), rfl, rfl⟩ hl.1 rfl (Nat.le_of_ble_eq_true rfl) ⟨(by show _ ≤ 56; omega), (by show _ ≤ 336; omega)⟩ dL_same_235 (fun H locs hI => ?_)
                      have hI : g_LS (g_Own 131 a) D a (lE a cI (q_220.2, q_235.2, s_164.2.2)) s H locs := hI
                      obtain ⟨j246, hj246, h⟩ := gJoin1_in h
                      have J246 : ∀ (w0_246 : Int32) (H : Heap) (locs : List Loc) (ls : Array Slot), j246 w0_246 = some out → g_LS (g_Own 131 a) D a (lE a cI (q_220.2, q_235.2, s_164.2.2)) s H locs → lv_has ls 8 [(0, .ref (a 0)), (1, .ref (a 65)), (3, .int x3), (5, .int w0_79), (6, .int v6_164)] → W p l e rmL_same s m args below meth c H locs (24 + 4 * (8 - (n164 + 1)) + 4) (144 + 24 * (8 - (n164 + 1)) + 24) Q (F0 m 246 ls [.int w0_246]) := by
                        intro w0_246 H locs ls h hI hl
                        rw [hj246] at h
                        refine lv_istore (lv' := [(4, .int w0_246), (0, .ref (a 0)), (1, .ref (a 65)), (3, .int x3), (5, .int w0_79), (6, .int v6_164)]) hx hb dL_same_246 hl (by decide) rfl (fun ls hl => ?_)
                        refine lv_iinc (v := v6_164 + 1) (lv' := [(6, .int (v6_164 + 1)), (4, .int w0_246), (0, .ref (a 0)), (1, .ref (a 65)), (3, .int x3), (5, .int w0_79)]) hx hb dL_same_248 hl (k := 5) rfl rfl (by decide) rfl (fun ls hl => ?_)
                        refine lv_goto (tgt := 164) hx hb dL_same_251 (by decide) ?_
                        refine W.widen (k := (24 + 4 * (8 - n164) + 0)) (n := (144 + 24 * (8 - n164) + 0)) (by omega) (by omega) ?_
                        exact ih164 (by omega) _ _ _ _ _ _ h hI (lv_sub hl [2, 3, 4, 1, 5, 0] rfl)
                      refine lv_icmp_ne (tgt := 245) hx hb dL_same_238 (by decide) (fun c_238 => ?_) (fun c_238 => ?_)
                      · have h := (if_neg c_238).symm.trans h
                        refine lv_iconst (v := 0) hx hb dL_same_245 (by decide) ?_
                        refine W.widen (k := (24 + 4 * (8 - (n164 + 1)) + 4)) (n := (144 + 24 * (8 - (n164 + 1)) + 24)) (by omega) (by omega) ?_
                        exact J246 _ _ _ _ h hI (lv_sub hl [1, 2, 3, 4, 5] rfl)
                      · have h := (if_pos c_238).symm.trans h
                        refine lv_iconst (v := 1) hx hb dL_same_241 (by decide) ?_
                        refine lv_goto (tgt := 246) hx hb dL_same_242 (by decide) ?_
                        refine W.widen (k := (24 + 4 * (8 - (n164 + 1)) + 4)) (n := (144 + 24 * (8 - (n164 + 1)) + 24)) (by omega) (by omega) ?_
                        exact J246 _ _ _ _ h hI (lv_sub hl [1, 2, 3, 4, 5] rfl)
                    refine lv_icmp_ge (tgt := 192) hx hb dL_same_179 (by decide) (fun c_179 => ?_) (fun c_179 => ?_)
                    · have h := (if_pos c_179).symm.trans h
                      refine lv_iload hx hb dL_same_192 (lv_at hl 5 rfl) ?_
                      refine lv_iconst (v := 5) hx hb dL_same_194 (by decide) ?_
                      refine lv_icmp_ne (tgt := 204) hx hb dL_same_195 (by decide) (fun c_195 => ?_) (fun c_195 => ?_)
                      · have h := (if_neg c_195).symm.trans h
                        refine lv_iload hx hb dL_same_204 (lv_at hl 4 rfl) ?_
                        refine W.widen (k := (24 + 4 * (8 - (n164 + 1)) + 0)) (n := (144 + 24 * (8 - (n164 + 1)) + 0)) (by omega) (by omega) ?_
                        exact J206 _ _ _ _ h hI (lv_sub hl [0, 1, 2, 4, 5] rfl)
                      · have h := (if_pos c_195).symm.trans h
                        refine lv_iload_n hx hb dL_same_198 rfl (lv_at hl 2 rfl) ?_
                        refine lv_iconst (v := 5) hx hb dL_same_199 (by decide) ?_
                        refine lv_irem hx hb dL_same_200 (by decide) ?_
                        refine lv_goto (tgt := 206) hx hb dL_same_201 (by decide) ?_
                        refine W.widen (k := (24 + 4 * (8 - (n164 + 1)) + 0)) (n := (144 + 24 * (8 - (n164 + 1)) + 0)) (by omega) (by omega) ?_
                        exact J206 _ _ _ _ h hI (lv_sub hl [0, 1, 2, 4, 5] rfl)
                    · have h := (if_neg c_179).symm.trans h
                      refine lv_iload_n hx hb dL_same_182 rfl (lv_at hl 2 rfl) ?_
                      refine lv_bipush (v := 7) hx hb dL_same_183 (by decide) ?_
                      refine lv_idiv hx hb dL_same_185 (by decide) ?_
                      refine lv_bipush (v := 6) hx hb dL_same_186 (by decide) ?_
                      refine lv_irem hx hb dL_same_188 (by decide) ?_
                      refine lv_goto (tgt := 206) hx hb dL_same_189 (by decide) ?_
                      refine W.widen (k := (24 + 4 * (8 - (n164 + 1)) + 0)) (n := (144 + 24 * (8 - (n164 + 1)) + 0)) (by omega) (by omega) ?_
                      exact J206 _ _ _ _ h hI (lv_sub hl [0, 1, 2, 4, 5] rfl)
            refine W.widen (k := (24 + 4 * (8 - 8) + 0)) (n := (144 + 24 * (8 - 8) + 0)) (by omega) (by omega) ?_
            exact L164 8 (Nat.le_refl _) _ _ _ _ _ _ h hI (lv_sub hl [1, 2, 3, 4, 5, 0] rfl)
          refine lv_icmp_ge (tgt := 161) hx hb dL_same_88 (by decide) (fun c_88 => ?_) (fun c_88 => ?_)
          · have h := (if_pos c_88).symm.trans h
            refine W.widen (k := 24) (n := 144) (by omega) (by omega) ?_
            exact J161 _ _ _ h hI (lv_sub hl [0, 1, 2, 3, 4] rfl)
          · have h := (if_neg c_88).symm.trans h
            refine lv_iload hx hb dL_same_91 (lv_at hl 3 rfl) ?_
            refine lv_if_eq (tgt := 161) hx hb dL_same_93 (by decide) (fun c_93 => ?_) (fun c_93 => ?_)
            · have h := (if_pos c_93).symm.trans h
              refine W.widen (k := 24) (n := 144) (by omega) (by omega) ?_
              exact J161 _ _ _ h hI (lv_sub hl [0, 1, 2, 3, 4] rfl)
            · have h := (if_neg c_93).symm.trans h
              refine lv_iload hx hb dL_same_96 (lv_at hl 5 rfl) ?_
              refine lv_iconst (v := 3) hx hb dL_same_98 (by decide) ?_
              obtain ⟨j127, hj127, h⟩ := gJoin1_in h
              have J127 : ∀ (w0_127 : Int32) (H : Heap) (locs : List Loc) (ls : Array Slot), j127 w0_127 = some out → g_LS (g_Own 131 a) D a (lE a cI s_84) s H locs → lv_has ls 8 [(0, .ref (a 0)), (1, .ref (a 65)), (3, .int x3), (5, .int w0_79), (6, .int v6_84)] → W p l e rmL_same s m args below meth c H locs (4 + 2 * (10 - (n84 + 1)) + 0) (24 + 12 * (10 - (n84 + 1)) + 0) Q (F0 m 127 ls [.int w0_127]) := by
                intro w0_127 H locs ls h hI hl
                rw [hj127] at h
                refine lv_istore (lv' := [(7, .int w0_127), (0, .ref (a 0)), (1, .ref (a 65)), (3, .int x3), (5, .int w0_79), (6, .int v6_84)]) hx hb dL_same_127 hl (by decide) rfl (fun ls hl => ?_)
                refine lv_aload_n hx hb dL_same_129 rfl (lv_at hl 1 rfl) ?_
                refine lv_iload hx hb dL_same_130 (lv_at hl 5 rfl) ?_
                refine lv_iload hx hb dL_same_132 (lv_at hl 0 rfl) ?_
                obtain ⟨q_134, e_134, h⟩ := gBind_in h
                refine g_lcA (S := s_84) (σ' := q_134.2) (r := q_134.1) (As := [.ref (a 0), .int v6_84, .int w0_127]) (rest := []) F hI (c_L_of l D a cI (g_inj_sub (by decide) F.2.2.1) F.2.2.2.2.2.2.2 sa N s_84.1 v6_84 w0_127 q_134 e_134) kh_L_of kn_L kd_L_of kt_L_of km_L_117 ⟨(Nat.le_of_ble_eq_true rfl), (Nat.le_of_ble_eq_true rfl), rfl, rfl⟩ hl.1 rfl (Nat.le_of_ble_eq_true rfl) ⟨(by show _ ≤ 56; omega), (by show _ ≤ 336; omega)⟩ dL_same_134 (fun H locs hI => ?_)
                have hI : g_LS (g_Own 131 a) D a (lE a cI (q_134.2, s_84.2.1, s_84.2.2)) s H locs := hI
                refine lv_aload_n hx hb dL_same_137 rfl (lv_at hl 2 rfl) ?_
                refine lv_iload hx hb dL_same_138 (lv_at hl 5 rfl) ?_
                refine lv_iload hx hb dL_same_140 (lv_at hl 0 rfl) ?_
                obtain ⟨q_142, e_142, h⟩ := gBind_in h
                refine g_lcB (S := (q_134.2, s_84.2.1, s_84.2.2)) (σ' := q_142.2) (r := q_142.1) (As := [.ref (a 65), .int v6_84, .int w0_127]) (rest := [.int q_134.1]) F hI (c_L_of l D (bA a) cI (g_inj_b F.2.2.1) F.2.2.2.2.2.2.2 sa N s_84.2.1 v6_84 w0_127 q_142 e_142) kh_L_of kn_L kd_L_of kt_L_of km_L_117 ⟨(Nat.le_of_ble_eq_true rfl), (Nat.le_of_ble_eq_true rfl), rfl, rfl⟩ hl.1 rfl (Nat.le_of_ble_eq_true rfl) ⟨(by show _ ≤ 56; omega), (by show _ ≤ 336; omega)⟩ dL_same_142 (fun H locs hI => ?_)
                have hI : g_LS (g_Own 131 a) D a (lE a cI (q_134.2, q_142.2, s_84.2.2)) s H locs := hI
                obtain ⟨j153, hj153, h⟩ := gJoin1_in h
                have J153 : ∀ (w0_153 : Int32) (H : Heap) (locs : List Loc) (ls : Array Slot), j153 w0_153 = some out → g_LS (g_Own 131 a) D a (lE a cI (q_134.2, q_142.2, s_84.2.2)) s H locs → lv_has ls 8 [(0, .ref (a 0)), (1, .ref (a 65)), (3, .int x3), (5, .int w0_79), (6, .int v6_84)] → W p l e rmL_same s m args below meth c H locs (4 + 2 * (10 - (n84 + 1)) + 2) (24 + 12 * (10 - (n84 + 1)) + 12) Q (F0 m 153 ls [.int w0_153]) := by
                  intro w0_153 H locs ls h hI hl
                  rw [hj153] at h
                  refine lv_istore (lv' := [(4, .int w0_153), (0, .ref (a 0)), (1, .ref (a 65)), (3, .int x3), (5, .int w0_79), (6, .int v6_84)]) hx hb dL_same_153 hl (by decide) rfl (fun ls hl => ?_)
                  refine lv_iinc (v := v6_84 + 1) (lv' := [(6, .int (v6_84 + 1)), (4, .int w0_153), (0, .ref (a 0)), (1, .ref (a 65)), (3, .int x3), (5, .int w0_79)]) hx hb dL_same_155 hl (k := 5) rfl rfl (by decide) rfl (fun ls hl => ?_)
                  refine lv_goto (tgt := 84) hx hb dL_same_158 (by decide) ?_
                  refine W.widen (k := (4 + 2 * (10 - n84) + 0)) (n := (24 + 12 * (10 - n84) + 0)) (by omega) (by omega) ?_
                  exact ih84 (by omega) _ _ _ _ _ _ h hI (lv_sub hl [2, 3, 4, 1, 5, 0] rfl)
                refine lv_icmp_ne (tgt := 152) hx hb dL_same_145 (by decide) (fun c_145 => ?_) (fun c_145 => ?_)
                · have h := (if_neg c_145).symm.trans h
                  refine lv_iconst (v := 0) hx hb dL_same_152 (by decide) ?_
                  refine W.widen (k := (4 + 2 * (10 - (n84 + 1)) + 2)) (n := (24 + 12 * (10 - (n84 + 1)) + 12)) (by omega) (by omega) ?_
                  exact J153 _ _ _ _ h hI (lv_sub hl [1, 2, 3, 4, 5] rfl)
                · have h := (if_pos c_145).symm.trans h
                  refine lv_iconst (v := 1) hx hb dL_same_148 (by decide) ?_
                  refine lv_goto (tgt := 153) hx hb dL_same_149 (by decide) ?_
                  refine W.widen (k := (4 + 2 * (10 - (n84 + 1)) + 2)) (n := (24 + 12 * (10 - (n84 + 1)) + 12)) (by omega) (by omega) ?_
                  exact J153 _ _ _ _ h hI (lv_sub hl [1, 2, 3, 4, 5] rfl)
              refine lv_icmp_ge (tgt := 113) hx hb dL_same_99 (by decide) (fun c_99 => ?_) (fun c_99 => ?_)
              · have h := (if_pos c_99).symm.trans h
                refine lv_iload hx hb dL_same_113 (lv_at hl 5 rfl) ?_
                refine lv_iconst (v := 5) hx hb dL_same_115 (by decide) ?_
                refine lv_icmp_ge (tgt := 125) hx hb dL_same_116 (by decide) (fun c_116 => ?_) (fun c_116 => ?_)
                · have h := (if_pos c_116).symm.trans h
                  refine lv_iload hx hb dL_same_125 (lv_at hl 4 rfl) ?_
                  refine W.widen (k := (4 + 2 * (10 - (n84 + 1)) + 0)) (n := (24 + 12 * (10 - (n84 + 1)) + 0)) (by omega) (by omega) ?_
                  exact J127 _ _ _ _ h hI (lv_sub hl [0, 1, 2, 4, 5] rfl)
                · have h := (if_neg c_116).symm.trans h
                  refine lv_iload_n hx hb dL_same_119 rfl (lv_at hl 2 rfl) ?_
                  refine lv_iconst (v := 5) hx hb dL_same_120 (by decide) ?_
                  refine lv_irem hx hb dL_same_121 (by decide) ?_
                  refine lv_goto (tgt := 127) hx hb dL_same_122 (by decide) ?_
                  refine W.widen (k := (4 + 2 * (10 - (n84 + 1)) + 0)) (n := (24 + 12 * (10 - (n84 + 1)) + 0)) (by omega) (by omega) ?_
                  exact J127 _ _ _ _ h hI (lv_sub hl [0, 1, 2, 4, 5] rfl)
              · have h := (if_neg c_99).symm.trans h
                refine lv_iconst (v := 1) hx hb dL_same_102 (by decide) ?_
                refine lv_iload_n hx hb dL_same_103 rfl (lv_at hl 2 rfl) ?_
                refine lv_iconst (v := 5) hx hb dL_same_104 (by decide) ?_
                refine lv_idiv hx hb dL_same_105 (by decide) ?_
                refine lv_bipush (v := 60) hx hb dL_same_106 (by decide) ?_
                refine lv_irem hx hb dL_same_108 (by decide) ?_
                refine lv_iadd hx hb dL_same_109 ?_
                refine lv_goto (tgt := 127) hx hb dL_same_110 (by decide) ?_
                refine W.widen (k := (4 + 2 * (10 - (n84 + 1)) + 0)) (n := (24 + 12 * (10 - (n84 + 1)) + 0)) (by omega) (by omega) ?_
                exact J127 _ _ _ _ h hI (lv_sub hl [0, 1, 2, 4, 5] rfl)
      refine W.widen (k := (4 + 2 * (10 - 10) + 0)) (n := (24 + 12 * (10 - 10) + 0)) (by omega) (by omega) ?_
      exact L84 10 (Nat.le_refl _) _ _ _ _ _ _ h hI (lv_sub hl [2, 3, 4, 5, 1, 0] rfl)
    refine lv_if_ne (tgt := 74) hx hb dL_same_67 (by decide) (fun c_67 => ?_) (fun c_67 => ?_)
    · have h := (if_neg c_67).symm.trans h
      refine lv_iload_n hx hb dL_same_74 rfl (lv_at hl 4 rfl) ?_
      refine lv_aload_n hx hb dL_same_75 rfl (lv_at hl 3 rfl) ?_
      refine lv_iconst (v := 0) hx hb dL_same_76 (by decide) ?_
      refine g_lald F hI dL_same_77 ?_
      obtain ⟨g_78, h⟩ := g_guard h
      refine lv_irem hx hb dL_same_78 g_78 ?_
      refine W.widen (k := 4) (n := 24) (by omega) (by omega) ?_
      exact J79 _ _ _ _ h hI (lv_sub hl [1, 2, 4, 0] rfl)
    · have h := (if_pos c_67).symm.trans h
      refine lv_iconst (v := 0) hx hb dL_same_70 (by decide) ?_
      refine lv_goto (tgt := 79) hx hb dL_same_71 (by decide) ?_
      refine W.widen (k := 4) (n := 24) (by omega) (by omega) ?_
      exact J79 _ _ _ _ h hI (lv_sub hl [1, 2, 4, 0] rfl)
  obtain ⟨j61, hj61, h⟩ := gJoin1_in h
  have J61 : ∀ (s_61 : lSt) (H : Heap) (locs : List Loc) (ls : Array Slot), j61 s_61 = some out → g_LS (g_Own 131 a) D a (lE a cI s_61) s H locs → lv_has ls 8 [(0, .ref (a 0)), (1, .ref (a 65)), (2, .ref (a 130)), (3, .int x3)] → W p l e rmL_same s m args below meth c H locs 4 24 Q (F0 m 61 ls []) := by
    intro s_61 H locs ls h hI hl
    rw [hj61] at h
    refine lv_iconst (v := 0) hx hb dL_same_61 (by decide) ?_
    refine W.widen (k := 4) (n := 24) (by omega) (by omega) ?_
    exact J62 _ _ _ _ _ h hI (lv_sub hl [0, 1, 2, 3] rfl)
  refine lv_icmp_ne (tgt := 61) hx hb dL_same_8 (by decide) (fun c_8 => ?_) (fun c_8 => ?_)
  · have h := (if_neg c_8).symm.trans h
    refine W.widen (k := 4) (n := 24) (by omega) (by omega) ?_
    exact J61 _ _ _ _ h hI (lv_sub hl [0, 1, 2, 3] rfl)
  · have h := (if_pos c_8).symm.trans h
    refine lv_aload_n hx hb dL_same_11 rfl (lv_at hl 0 rfl) ?_
    obtain ⟨q_12, e_12, h⟩ := gBind_in h
    refine g_ldA (S := S) (σ' := q_12.2) (As := []) (rest := []) F hI (c_X9_spread l D a cI (g_inj_sub (by decide) F.2.2.1) N S.1 q_12 e_12) kb_X9_spread ki_X9_spread ks_X9_spread km_L_108 ⟨(Nat.le_of_ble_eq_true rfl), (Nat.le_of_ble_eq_true rfl), rfl, rfl⟩ hl.1 rfl (Nat.le_of_ble_eq_true rfl) ⟨(by show _ ≤ 56; omega), (by show _ ≤ 336; omega)⟩ dL_same_12 (fun H locs hI => ?_)
    have hI : g_LS (g_Own 131 a) D a (lE a cI (q_12.2, S.2.1, S.2.2)) s H locs := hI
    refine lv_aload_n hx hb dL_same_15 rfl (lv_at hl 1 rfl) ?_
    obtain ⟨q_16, e_16, h⟩ := gBind_in h
    refine g_ldB (S := (q_12.2, S.2.1, S.2.2)) (σ' := q_16.2) (As := []) (rest := [.int q_12.1]) F hI (c_X9_spread l D (bA a) cI (g_inj_b F.2.2.1) N S.2.1 q_16 e_16) kb_X9_spread ki_X9_spread ks_X9_spread km_L_108 ⟨(Nat.le_of_ble_eq_true rfl), (Nat.le_of_ble_eq_true rfl), rfl, rfl⟩ hl.1 rfl (Nat.le_of_ble_eq_true rfl) ⟨(by show _ ≤ 56; omega), (by show _ ≤ 336; omega)⟩ dL_same_16 (fun H locs hI => ?_)
    have hI : g_LS (g_Own 131 a) D a (lE a cI (q_12.2, q_16.2, S.2.2)) s H locs := hI
    refine lv_icmp_ne (tgt := 61) hx hb dL_same_19 (by decide) (fun c_19 => ?_) (fun c_19 => ?_)
    · have h := (if_neg c_19).symm.trans h
      refine W.widen (k := 4) (n := 24) (by omega) (by omega) ?_
      exact J61 _ _ _ _ h hI (lv_sub hl [0, 1, 2, 3] rfl)
    · have h := (if_pos c_19).symm.trans h
      refine lv_aload_n hx hb dL_same_22 rfl (lv_at hl 0 rfl) ?_
      refine lv_iconst (v := 0) hx hb dL_same_23 (by decide) ?_
      refine lv_iload_n hx hb dL_same_24 rfl (lv_at hl 3 rfl) ?_
      refine lv_bipush (v := 12) hx hb dL_same_25 (by decide) ?_
      refine lv_irem hx hb dL_same_27 (by decide) ?_
      refine lv_iload_n hx hb dL_same_28 rfl (lv_at hl 3 rfl) ?_
      refine lv_bipush (v := 12) hx hb dL_same_29 (by decide) ?_
      refine lv_idiv hx hb dL_same_31 (by decide) ?_
      refine lv_bipush (v := 12) hx hb dL_same_32 (by decide) ?_
      refine lv_irem hx hb dL_same_34 (by decide) ?_
      obtain ⟨q_35, e_35, h⟩ := gBind_in h
      refine g_lcA (S := (q_12.2, q_16.2, S.2.2)) (σ' := q_35.2) (r := q_35.1) (As := [.ref (a 0), .int 0, .int (x3 - x3 / 12 * 12), .int ((x3 / 12) - (x3 / 12) / 12 * 12)]) (rest := []) F hI (c_L_at l D a cI (g_inj_sub (by decide) F.2.2.1) F.2.2.2.2.2.2.2 sa N q_12.2 0 (x3 - x3 / 12 * 12) ((x3 / 12) - (x3 / 12) / 12 * 12) q_35 e_35) kh_L_at kn_L kd_L_at kt_L_at km_L_111 ⟨(Nat.le_of_ble_eq_true rfl), (Nat.le_of_ble_eq_true rfl), rfl, rfl⟩ hl.1 rfl (Nat.le_of_ble_eq_true rfl) ⟨(by show _ ≤ 56; omega), (by show _ ≤ 336; omega)⟩ dL_same_35 (fun H locs hI => ?_)
      have hI : g_LS (g_Own 131 a) D a (lE a cI (q_35.2, q_16.2, S.2.2)) s H locs := hI
      refine lv_aload_n hx hb dL_same_38 rfl (lv_at hl 1 rfl) ?_
      refine lv_iconst (v := 0) hx hb dL_same_39 (by decide) ?_
      refine lv_iload_n hx hb dL_same_40 rfl (lv_at hl 3 rfl) ?_
      refine lv_bipush (v := 12) hx hb dL_same_41 (by decide) ?_
      refine lv_idiv hx hb dL_same_43 (by decide) ?_
      refine lv_bipush (v := 12) hx hb dL_same_44 (by decide) ?_
      refine lv_irem hx hb dL_same_46 (by decide) ?_
      refine lv_iload_n hx hb dL_same_47 rfl (lv_at hl 3 rfl) ?_
      refine lv_bipush (v := 12) hx hb dL_same_48 (by decide) ?_
      refine lv_irem hx hb dL_same_50 (by decide) ?_
      obtain ⟨q_51, e_51, h⟩ := gBind_in h
      refine g_lcB (S := (q_35.2, q_16.2, S.2.2)) (σ' := q_51.2) (r := q_51.1) (As := [.ref (a 65), .int 0, .int ((x3 / 12) - (x3 / 12) / 12 * 12), .int (x3 - x3 / 12 * 12)]) (rest := [.int q_35.1]) F hI (c_L_at l D (bA a) cI (g_inj_b F.2.2.1) F.2.2.2.2.2.2.2 sa N q_16.2 0 ((x3 / 12) - (x3 / 12) / 12 * 12) (x3 - x3 / 12 * 12) q_51 e_51) kh_L_at kn_L kd_L_at kt_L_at km_L_111 ⟨(Nat.le_of_ble_eq_true rfl), (Nat.le_of_ble_eq_true rfl), rfl, rfl⟩ hl.1 rfl (Nat.le_of_ble_eq_true rfl) ⟨(by show _ ≤ 56; omega), (by show _ ≤ 336; omega)⟩ dL_same_51 (fun H locs hI => ?_)
      have hI : g_LS (g_Own 131 a) D a (lE a cI (q_35.2, q_51.2, S.2.2)) s H locs := hI
      refine lv_icmp_ne (tgt := 61) hx hb dL_same_54 (by decide) (fun c_54 => ?_) (fun c_54 => ?_)
      · have h := (if_neg c_54).symm.trans h
        refine W.widen (k := 4) (n := 24) (by omega) (by omega) ?_
        exact J61 _ _ _ _ h hI (lv_sub hl [0, 1, 2, 3] rfl)
      · have h := (if_pos c_54).symm.trans h
        refine lv_iconst (v := 1) hx hb dL_same_57 (by decide) ?_
        refine lv_goto (tgt := 62) hx hb dL_same_58 (by decide) ?_
        refine W.widen (k := 4) (n := 24) (by omega) (by omega) ?_
        exact J62 _ _ _ _ _ h hI (lv_sub hl [0, 1, 2, 3] rfl)
