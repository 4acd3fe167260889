/-! drawn: a number of the script, or one made of its place -/
def h_drawn (L : Nat) (xs : Nat → Int32) (k : Int32) : Int32 := (if Int32.ofNat L ≤ k then 12433 * k + 4013 else xs k.toNatClampNeg) &&& 1073741823
abbrev rmL_drawn : Room := { frames := 0, cells := 0, slots := 0, locals := 0 }
theorem kb_L_drawn : g_CB yL_drawn cL_drawn 3 (some .int) 2 := ⟨kc_L_drawn, kn_L, by decide +kernel⟩
set_option maxRecDepth 100000 in
theorem c_L_drawn (l : Launch) (sz b L : Nat) (xs : Nat → Int32) (hL : L ≤ 260) (k : Int32) (hk : ¬ k < 0) : Met l yL_drawn (Cond.code yL_drawn cL_drawn 3 (some .int) :: gW) rmL_drawn (va_Pc [.ref b, .int k] (fun U => U.heap.size = sz ∧ va_X b L xs U U.heap ∧ b < U.heap.size)) (va_Qi (fun (r1 : Int32) (_ : Unit) => r1 = h_drawn L xs k) (fun (_ : Unit) t => t.heap.size = sz) (fun _ => False)) 0 0 (fun _ => False) := by
  refine Met.ofW (cc := cL_drawn) (maxL := 3) (ret := some .int) (by decide) rfl ?_
  intro p e s m args below meth c s₁ B hml hv
  obtain ⟨rfl, hsz, hX, hbl⟩ := hv
  have hx := B.exec
  have hb := B.bytes
  have hr := B.returns
  have hts := atoms_spec (ws := Cond.code yL_drawn cL_drawn 3 (some .int) :: gW) B.pre
  have hG : ∀ w ∈ gW, w.before ([.ref b, .int k] : List Value).toArray s = true := fun w h => hts w (List.mem_cons_of_mem _ h)
  have hown : s.vm.findClass RL = some m.cls := findClass_of_methodNamed B.named
  have hlocks := B.notSynchronized
  have hS : va_S (fun _ => False) s.heap s.heap [] := va_S.rf
  have hl := lv_entry [.ref b, .int k] (n := 3) (Nat.le_of_ble_eq_true rfl)
  rw [lg_entry_eq]
  generalize (lg_sl [.ref b, .int k] ++ List.replicate (3 - (lg_sl [.ref b, .int k]).length) Slot.unset).toArray = ls at hl ⊢
  have hl : lv_has ls 3 [(0, .ref b), (1, .int k)] := hl
  have fin : ∀ (v : Int32) (ls : Array Slot), lv_has ls 3 [(0, .ref b), (1, .int k)] → v &&& 1073741823 = h_drawn L xs k → W p l e rmL_drawn s m ([.ref b, .int k] : List Value).toArray below meth c s.heap [] 0 0 (MQ below (va_Qi (fun (r1 : Int32) (_ : Unit) => r1 = h_drawn L xs k) (fun (_ : Unit) t => t.heap.size = sz) (fun _ => False)) ([.ref b, .int k] : List Value).toArray s 0 0 (fun _ => False)) (F0 m 21 ls [.int v]) := by
    intro v ls hl hv
    refine lv_istore_n (lv' := [(2, .int v), (0, .ref b), (1, .int k)]) hx hb dL_drawn_21 rfl hl (by decide) rfl (fun ls hl => ?_)
    refine lv_iload_n hx hb dL_drawn_22 rfl (lv_at hl 0 rfl) ?_
    refine lv_ldc (v := 1073741823) hx hb hown (hG _ kk_L_7) dL_drawn_23 ?_
    refine lv_iand hx hb dL_drawn_25 ?_
    exact W.iret hx hb hr (fun t ht hW => ⟨⟨v &&& 1073741823, (), rfl, hv, by show t.heap.size = sz; rw [ht]; exact hsz⟩, ⟨by rw [ht]; exact Nat.le_refl _, fun q _ _ => by rw [ht]⟩⟩) (fun q h => by cases h) dL_drawn_26 hlocks
  refine lv_iload_n hx hb dL_drawn_0 rfl (lv_at hl 1 rfl) ?_
  refine lv_aload_n hx hb dL_drawn_1 rfl (lv_at hl 0 rfl) ?_
  refine va_slen hx hb hX hbl (fun h => h) hS dL_drawn_2 ?_
  refine lv_icmp_ge (tgt := 12) hx hb dL_drawn_3 (by decide) (fun c1 => ?_) (fun c1 => ?_)
  · refine lv_sipush (v := 12433) hx hb dL_drawn_12 (by decide) ?_
    refine lv_iload_n hx hb dL_drawn_15 rfl (lv_at hl 1 rfl) ?_
    refine lv_imul hx hb dL_drawn_16 ?_
    refine lv_sipush (v := 4013) hx hb dL_drawn_17 (by decide) ?_
    refine lv_iadd hx hb dL_drawn_20 ?_
    exact fin _ ls hl (by unfold h_drawn; rw [if_pos c1])
  · refine lv_aload_n hx hb dL_drawn_6 rfl (lv_at hl 0 rfl) ?_
    refine lv_iload_n hx hb dL_drawn_7 rfl (lv_at hl 1 rfl) ?_
    refine va_sld hx hb hX hbl (fun h => h) hS (g_vin (by omega) hk c1) dL_drawn_8 ?_
    refine lv_goto (tgt := 21) hx hb dL_drawn_9 (by decide) ?_
    exact fin _ ls hl (by unfold h_drawn; rw [if_neg c1])
section GSt
variable {p : Program} {l : Launch} {e : Env} {R : Room} {s : State} {m : MethodId} {args : Array Value} {below : List Frame} {meth : Method} {c : Code} {H : Heap} {locs : List Loc} {cells slots : Nat} {Q : State → Prop} {D : va_G} {tys : List (ClassId × FieldType)} {pc : Nat} {ls : Array Slot} {rest : List Value} {A : Nat → Prop} {ws : va_W} {index b L : Nat} {xs : Nat → Int32} {k : Int32} {cI : ClassId}
theorem g_ldrawn (F : CallFix p m c cL_law 15 s args gW RL) (hX : va_X b L xs s s.heap) (hbl : b < s.heap.size) (hbA : ¬ A b) (hL : L ≤ 260) (hP : va_P D vwCl ws H) (hS : va_S A s.heap H locs) (hk0 : ¬ k < 0) (hls : ls.size = 15) (hR : 1 ≤ R.frames ∧ 22 ≤ R.locals) (hW : (rest.map fun v => v.category).sum ≤ 8) (hcs : cells ≤ R.cells ∧ slots ≤ R.slots) (hdg : decode cL_law pc = .ok (.invokestatic index, 3)) (h1 : Cond.methodLink RL index yL_drawn ∈ gW)
    (kk : ∀ (H1 : Heap) (locs1 : List Loc), va_P D vwCl ws H1 → va_S A s.heap H1 locs1 → H1.size = H.size → W p l e R s m args below meth c H1 locs1 cells slots Q (F0 m (pc + 3) ls (.int (h_drawn L xs k) :: rest))) : W p l e R s m args below meth c H locs cells slots Q (F0 m pc ls (.int k :: .ref b :: rest)) := by
  have cb := g_cb (R := R) (s := s) (args := args) (rm := rmL_drawn) F.2.2.2.2 kb_L_drawn h1 ⟨hR.1, hR.2⟩
  refine va_calli (va_runS (As := [.ref b, .int k]) (rest := rest) F (c_L_drawn l H.size b L xs hL k hk0) ⟨cb, F.2.2.2.2 _ kt_L_drawn⟩ ⟨fun aa U g mk q => ⟨q.1, q.2.1, va_X.moved (u := U) (U := U.calling g mk aa) (Vm.Alike.refl U.vm) q.2.2.1, q.2.2.2⟩, fun U hU hW => ⟨rfl, by rw [hU], by rw [hU]; exact va_X.moved hW.alike (hX.kept (hS.2.1 b hbl hbA)), by rw [hU]; exact Nat.lt_of_lt_of_le hbl hS.1⟩⟩ rfl rfl hls rfl (lv_room hW) hdg hcs) hS (fun q _ h => h.elim) (fun q h => h.elim) (fun r1 u t H1 locs1 ht hvm hw hB hz hk hS1 => ?_)
  have hw : r1 = h_drawn L xs k := hw
  subst hw
  rw [ht] at hB
  exact kk H1 locs1 (hP.kept (fun k q hq => hk q.1 (hP k q hq).lt (fun h => h))) hS1 hB
variable {maxL mc ms : Nat} {rm : Room} {As st0 : List Value} {e0 : Nat × va_E} {wr w1 : va_W} {sz z : Nat}
/-- a new club, beside what is there -/
theorem g_callCX (F : CallFix p m c cL_law 15 s args gW RL) (hK : va_K D vwCl [(cI, .int)] s) (hN : gNest s) (hP : va_P D vwCl ws H) (hD : va_D A ws) (hS : va_S A s.heap H locs) (hA : ∀ q, s.heap.size ≤ q → A q) (hz : H.size = sz) (i0 : Nat) (isR : List Nat) (hC : ws[i0]? = some e0) (hR : isR.map (fun i => ws[i]?) = wr.map some) (hn : va_nd isR = true) (hdis : ∀ i ∈ isR, i ∉ [i0])
    (hM : Met l yX9_init (Cond.code yX9_init cX9_init 3 none :: gW) rm (g_CPcN D e0 [(cI, .int)] sz (.ref e0.1 :: As)) (g_CQ D e0 w1 sz z) mc ms (va_A [e0] sz)) (hb : g_CB yX9_init cX9_init 3 none As.length) (h1 : Cond.methodLink RL index yX9_init ∈ gW) (hRm : rm.frames + 1 ≤ R.frames ∧ 8 + (3 + 11) + rm.locals ≤ R.locals ∧ rm.cells = mc ∧ rm.slots = ms)
    (hls : ls.size = 15) (hst : st0 = As.reverse ++ .ref e0.1 :: rest) (hW : (rest.map fun v => v.category).sum ≤ 8) (hcs : cells + mc ≤ R.cells ∧ slots + ms ≤ R.slots) (hdg : decode cL_law pc = .ok (.invokespecial index, 3))
    (kk : ∀ (H1 : Heap) (locs1 : List Loc), va_P D vwCl (wr ++ w1) H1 → va_D A (wr ++ w1) → va_S A s.heap H1 locs1 → H1.size = z → W p l e R s m args below meth c H1 locs1 (cells + mc) (slots + ms) Q (F0 m (pc + 3) ls rest)) : W p l e R s m args below meth c H locs cells slots Q (F0 m pc ls st0) := by
  subst hz
  have cb := g_cb (R := R) (s := s) (args := args) (rm := rm) F.2.2.2.2 hb h1 ⟨hRm.1, hRm.2.1⟩
  rw [hRm.2.2.1, hRm.2.2.2] at cb
  have hC1 : [i0].map (fun i => ws[i]?) = [e0].map some := by simp [hC]
  have hFc := va_free (wc := [e0]) hD hS hA [i0] hC1
  refine va_callv (va_runI (As := As) (rest := rest) F hM ⟨cb, rfl, F.2.2.2.2 _ ki_X9_init⟩ ⟨fun aa U g mk q => ⟨q.1, q.2.1, q.2.2.1, va_K.moved (u := U) (U := U.calling g mk aa) (Vm.Alike.refl U.vm) q.2.2.2.1, va_Nw.same rfl rfl q.2.2.2.2.1, va_Nw.same rfl rfl q.2.2.2.2.2.1, va_Nw.same rfl rfl q.2.2.2.2.2.2⟩, fun U hU hW => ⟨rfl, by rw [hU], by rw [hU]; exact g_P1 hP hC, va_K.moved hW.alike hK, va_Nw.warmM hW hN.1, va_Nw.warmM hW hN.2.1, va_Nw.warmM hW hN.2.2⟩⟩ rfl rfl hls hst (lv_room hW) hdg hcs) hS (fun q _ h => hFc q h) hFc (fun u t H1 locs1 ht hvm hw hB hz1 hk1 hS1 => ?_)
  obtain ⟨hP1, hD1, hz2⟩ := hB
  rw [ht] at hP1 hz2
  obtain ⟨a1, a2⟩ := va_join hP hD [i0] isR hC1 hR hn hdis hk1 hFc hP1 hD1
  exact kk H1 locs1 a1 a2 hS1 hz2
end GSt
def h_law (N L : Nat) (xs : Nat → Int32) (v1 v2 : Int32) (S : lSt) : Option Int32 :=
  gLoop3 (fun self56 (v6_56 : Int32) (v7_56 : Int32) (s_56 : lSt) =>
    if 120 ≤ v7_56 then
      some v6_56
    else
      if v6_56 = 0 then
        some v6_56
      else
        if v7_56 - v7_56 / 60 * 60 < 0 then none else
        if 1 + (v7_56 / 60) = 0 then none else
        gJoin1 (fun (w0_112 : Int32) =>
            if v1 = 0 then none else
            if v2 = 0 then none else
            gJoin2 (fun (v6_802 : Int32) (s_802 : lSt) =>
                gJoin2 (fun (w0_835 : Int32) (s_835 : lSt) =>
                    self56 w0_835 (v7_56 + 1) s_835) (fun j835 =>
                gJoin1 (fun (s_834 : lSt) =>
                    j835 0 s_834) (fun j834 =>
                  if v6_802 = 0 then
                    j834 s_802
                  else
                    gJoin1 (fun (s_830 : lSt) =>
                        j835 1 s_830) (fun j830 =>
                      if v7_56 - v7_56 / 4 * 4 < 3 then
                        j830 s_802
                      else
                        (h_same N s_802 ((((h_drawn L xs (v7_56 - v7_56 / 60 * 60)) / (1 + (v7_56 / 60))) + (7 * (v7_56 / 60))) / 3)).bind (fun (q_824 : Int32 × lSt) =>
                        if q_824.1 = 0 then
                          j834 q_824.2
                        else
                          j830 q_824.2))))) (fun j802 =>
              if 4 ≤ w0_112 then
                if 7 ≤ w0_112 then
                  if 11 ≤ w0_112 then
                    if 14 ≤ w0_112 then
                      if 19 ≤ w0_112 then
                        if w0_112 = 19 then
                          h_case5 N ((((h_drawn L xs (v7_56 - v7_56 / 60 * 60)) / (1 + (v7_56 / 60))) + (7 * (v7_56 / 60))) / 40) s_56 j802
                        else
                          if 24 ≤ w0_112 then
                            if 26 ≤ w0_112 then
                              if w0_112 = 26 then
                                h_case8 N ((((h_drawn L xs (v7_56 - v7_56 / 60 * 60)) / (1 + (v7_56 / 60))) + (7 * (v7_56 / 60))) / 40) s_56 j802
                              else
                                h_case9 N ((((h_drawn L xs (v7_56 - v7_56 / 60 * 60)) / (1 + (v7_56 / 60))) + (7 * (v7_56 / 60))) / 40) s_56 j802
                            else
                              h_case7 N ((((h_drawn L xs (v7_56 - v7_56 / 60 * 60)) / (1 + (v7_56 / 60))) + (7 * (v7_56 / 60))) / 40) s_56 j802
                          else
                            h_case6 N ((((h_drawn L xs (v7_56 - v7_56 / 60 * 60)) / (1 + (v7_56 / 60))) + (7 * (v7_56 / 60))) / 40) s_56 j802
                      else
                        h_case4 N ((((h_drawn L xs (v7_56 - v7_56 / 60 * 60)) / (1 + (v7_56 / 60))) + (7 * (v7_56 / 60))) / 40) s_56 j802
                    else
                      h_case3 N (((((h_drawn L xs (v7_56 - v7_56 / 60 * 60)) / (1 + (v7_56 / 60))) + (7 * (v7_56 / 60))) / 40) - ((((h_drawn L xs (v7_56 - v7_56 / 60 * 60)) / (1 + (v7_56 / 60))) + (7 * (v7_56 / 60))) / 40) / v1 * v1) ((((((h_drawn L xs (v7_56 - v7_56 / 60 * 60)) / (1 + (v7_56 / 60))) + (7 * (v7_56 / 60))) / 40) / 12) - (((((h_drawn L xs (v7_56 - v7_56 / 60 * 60)) / (1 + (v7_56 / 60))) + (7 * (v7_56 / 60))) / 40) / 12) / v2 * v2) s_56 j802
                  else
                    h_case2 N ((((h_drawn L xs (v7_56 - v7_56 / 60 * 60)) / (1 + (v7_56 / 60))) + (7 * (v7_56 / 60))) / 40) (((((h_drawn L xs (v7_56 - v7_56 / 60 * 60)) / (1 + (v7_56 / 60))) + (7 * (v7_56 / 60))) / 40) - ((((h_drawn L xs (v7_56 - v7_56 / 60 * 60)) / (1 + (v7_56 / 60))) + (7 * (v7_56 / 60))) / 40) / v1 * v1) ((((((h_drawn L xs (v7_56 - v7_56 / 60 * 60)) / (1 + (v7_56 / 60))) + (7 * (v7_56 / 60))) / 40) / 12) - (((((h_drawn L xs (v7_56 - v7_56 / 60 * 60)) / (1 + (v7_56 / 60))) + (7 * (v7_56 / 60))) / 40) / 12) / v2 * v2) s_56 j802
                else
                  h_case1 N ((((h_drawn L xs (v7_56 - v7_56 / 60 * 60)) / (1 + (v7_56 / 60))) + (7 * (v7_56 / 60))) / 40) (((((h_drawn L xs (v7_56 - v7_56 / 60 * 60)) / (1 + (v7_56 / 60))) + (7 * (v7_56 / 60))) / 40) - ((((h_drawn L xs (v7_56 - v7_56 / 60 * 60)) / (1 + (v7_56 / 60))) + (7 * (v7_56 / 60))) / 40) / v1 * v1) ((((((h_drawn L xs (v7_56 - v7_56 / 60 * 60)) / (1 + (v7_56 / 60))) + (7 * (v7_56 / 60))) / 40) / 12) - (((((h_drawn L xs (v7_56 - v7_56 / 60 * 60)) / (1 + (v7_56 / 60))) + (7 * (v7_56 / 60))) / 40) / 12) / v2 * v2) s_56 j802
              else
                h_case0 N ((((h_drawn L xs (v7_56 - v7_56 / 60 * 60)) / (1 + (v7_56 / 60))) + (7 * (v7_56 / 60))) / 40) (((((h_drawn L xs (v7_56 - v7_56 / 60 * 60)) / (1 + (v7_56 / 60))) + (7 * (v7_56 / 60))) / 40) - ((((h_drawn L xs (v7_56 - v7_56 / 60 * 60)) / (1 + (v7_56 / 60))) + (7 * (v7_56 / 60))) / 40) / v1 * v1) ((((((h_drawn L xs (v7_56 - v7_56 / 60 * 60)) / (1 + (v7_56 / 60))) + (7 * (v7_56 / 60))) / 40) / 12) - (((((h_drawn L xs (v7_56 - v7_56 / 60 * 60)) / (1 + (v7_56 / 60))) + (7 * (v7_56 / 60))) / 40) / 12) / v2 * v2) s_56 j802)) (fun j112 =>
          if 5 ≤ v7_56 then
            j112 ((((h_drawn L xs (v7_56 - v7_56 / 60 * 60)) / (1 + (v7_56 / 60))) + (7 * (v7_56 / 60))) - (((h_drawn L xs (v7_56 - v7_56 / 60 * 60)) / (1 + (v7_56 / 60))) + (7 * (v7_56 / 60))) / 40 * 40)
          else
            j112 11)) 121 1 0 S
set_option maxRecDepth 100000 in
set_option maxHeartbeats 16000000 in
/-- the law behind its constructors, out of its function -/
theorem w_law {p : Program} {e : Env} {s : State} {m : MethodId} {below : List Frame} {meth : Method} {c : Code} {l : Launch} {b L : Nat} {xs : Nat → Int32} {D : va_G} {a : Nat → Nat} {cI : ClassId} {sa : Nat → Nat} {Q : State → Prop} {A : Nat → Prop} {N : Nat} {v1 v2 : Int32} {S : lSt} {out : Int32} (hL : L ≤ 260) (F : g_LF A p l m c cL_law 15 s #[Value.ref b] D a cI sa) (hX : va_X b L xs s s.heap) (hbl : b < s.heap.size) (hbA : ¬ A b)
    (hq : ∀ {S : lSt} (H1 : Heap) (locs1 : List Loc) (pc1 : Nat) (ls1 : Array Slot) (cl sl : Nat), cl ≤ 624708 → sl ≤ 7227575 → g_LS A D a (lE a cI S) s H1 locs1 → decode cL_law pc1 = .ok (.ireturn, 1) → W p l e room_1 s m #[Value.ref b] below meth c H1 locs1 cl sl Q (F0 m pc1 ls1 [.int out]))
    (h : h_law N L xs v1 v2 S = some out) {H : Heap} {locs : List Loc} {ls : Array Slot} (hI : g_LS A D a (lE a cI S) s H locs) (hl : lv_has ls 15 [(0, .ref b), (1, .int v1), (2, .int v2), (3, .ref (a 0)), (4, .ref (a 65)), (5, .ref (a 130)), (6, .int 1)]) : W p l e room_1 s m #[Value.ref b] below meth c H locs 131 6935 Q (F0 m 53 ls []) := by
  have hx := F.1.1
  have hb := F.1.2.1
  unfold h_law at h
  refine lv_iconst (v := 0) hx hb dL_law_53 (by decide) ?_
  refine lv_istore (lv' := [(7, .int 0), (0, .ref b), (1, .int v1), (2, .int v2), (3, .ref (a 0)), (4, .ref (a 65)), (5, .ref (a 130)), (6, .int 1)]) hx hb dL_law_54 hl (by decide) rfl (fun ls hl => ?_)
  obtain ⟨lp56, hz56, hs56, h⟩ := gLoop3_in h
  have L56 : ∀ (n56 : Nat), n56 ≤ 121 → ∀ (v6_56 : Int32) (v7_56 : Int32) (s_56 : lSt) (H : Heap) (locs : List Loc) (ls : Array Slot), lp56 n56 v6_56 v7_56 s_56 = some out → g_LS A D a (lE a cI s_56) s H locs → lv_has ls 15 [(0, .ref b), (1, .int v1), (2, .int v2), (3, .ref (a 0)), (4, .ref (a 65)), (5, .ref (a 130)), (6, .int v6_56), (7, .int v7_56)] → W p l e room_1 s m #[Value.ref b] below meth c H locs (131 + 66 * (121 - n56) + 0) (6935 + 396 * (121 - n56) + 0) Q (F0 m 56 ls []) := by
    intro n56
    induction n56 with
    | zero => intro hn56 v6_56 v7_56 s_56 H locs ls h; rw [hz56] at h; cases h
    | succ n56 ih56 =>
      intro hn56 v6_56 v7_56 s_56 H locs ls h hI hl
      rw [hs56] at h
      refine lv_iload hx hb dL_law_56 (lv_at hl 7 rfl) ?_
      refine lv_bipush (v := 120) hx hb dL_law_58 (by decide) ?_
      refine lv_icmp_ge (tgt := 843) hx hb dL_law_60 (by decide) (fun c_60 => ?_) (fun c_60 => ?_)
      · have h := (if_pos c_60).symm.trans h
        refine lv_iload hx hb dL_law_843 (lv_at hl 6 rfl) ?_
        have h := Option.some.inj h
        subst h
        exact hq _ _ _ _ _ _ (by omega) (by omega) hI dL_law_845
      · have h := (if_neg c_60).symm.trans h
        refine lv_iload hx hb dL_law_63 (lv_at hl 6 rfl) ?_
        refine lv_if_eq (tgt := 843) hx hb dL_law_65 (by decide) (fun c_65 => ?_) (fun c_65 => ?_)
        · have h := (if_pos c_65).symm.trans h
          refine lv_iload hx hb dL_law_843 (lv_at hl 6 rfl) ?_
          have h := Option.some.inj h
          subst h
          exact hq _ _ _ _ _ _ (by omega) (by omega) hI dL_law_845
        · have h := (if_neg c_65).symm.trans h
          refine lv_aload_n hx hb dL_law_68 rfl (lv_at hl 0 rfl) ?_
          refine lv_iload hx hb dL_law_69 (lv_at hl 7 rfl) ?_
          refine lv_bipush (v := 60) hx hb dL_law_71 (by decide) ?_
          refine lv_irem hx hb dL_law_73 (by decide) ?_
          obtain ⟨g_74, h⟩ := g_guard h
          refine g_ldrawn (k := v7_56 - v7_56 / 60 * 60) (rest := []) F.1 hX hbl hbA hL hI.1 hI.2 g_74 hl.1 ⟨(Nat.le_of_ble_eq_true rfl), (Nat.le_of_ble_eq_true rfl)⟩ (Nat.le_of_ble_eq_true rfl) ⟨(by show _ ≤ 624708; omega), (by show _ ≤ 7227575; omega)⟩ dL_law_74 km_L_121 (fun H locs hP hS hz2 => ?_)
          have hI : g_LS A D a (lE a cI s_56) s H locs := ⟨hP, hS⟩
          refine lv_iconst (v := 1) hx hb dL_law_77 (by decide) ?_
          refine lv_iload hx hb dL_law_78 (lv_at hl 7 rfl) ?_
          refine lv_bipush (v := 60) hx hb dL_law_80 (by decide) ?_
          refine lv_idiv hx hb dL_law_82 (by decide) ?_
          refine lv_iadd hx hb dL_law_83 ?_
          obtain ⟨g_84, h⟩ := g_guard h
          refine lv_idiv hx hb dL_law_84 g_84 ?_
          refine lv_bipush (v := 7) hx hb dL_law_85 (by decide) ?_
          refine lv_iload hx hb dL_law_87 (lv_at hl 7 rfl) ?_
          refine lv_bipush (v := 60) hx hb dL_law_89 (by decide) ?_
          refine lv_idiv hx hb dL_law_91 (by decide) ?_
          refine lv_imul hx hb dL_law_92 ?_
          refine lv_iadd hx hb dL_law_93 ?_
          refine lv_istore (lv' := [(8, .int (((h_drawn L xs (v7_56 - v7_56 / 60 * 60)) / (1 + (v7_56 / 60))) + (7 * (v7_56 / 60)))), (0, .ref b), (1, .int v1), (2, .int v2), (3, .ref (a 0)), (4, .ref (a 65)), (5, .ref (a 130)), (6, .int v6_56), (7, .int v7_56)]) hx hb dL_law_94 hl (by decide) rfl (fun ls hl => ?_)
          refine lv_iload hx hb dL_law_96 (lv_at hl 8 rfl) ?_
          refine lv_iconst (v := 5) hx hb dL_law_98 (by decide) ?_
          obtain ⟨j112, hj112, h⟩ := gJoin1_in h
          have J112 : ∀ (w0_112 : Int32) (H : Heap) (locs : List Loc) (ls : Array Slot), j112 w0_112 = some out → g_LS A D a (lE a cI s_56) s H locs → lv_has ls 15 [(0, .ref b), (1, .int v1), (2, .int v2), (3, .ref (a 0)), (4, .ref (a 65)), (5, .ref (a 130)), (7, .int v7_56), (8, .int (((h_drawn L xs (v7_56 - v7_56 / 60 * 60)) / (1 + (v7_56 / 60))) + (7 * (v7_56 / 60))))] → W p l e room_1 s m #[Value.ref b] below meth c H locs (131 + 66 * (121 - (n56 + 1)) + 0) (6935 + 396 * (121 - (n56 + 1)) + 0) Q (F0 m 112 ls [.int w0_112]) := by
            intro w0_112 H locs ls h hI hl
            rw [hj112] at h
            refine lv_istore (lv' := [(9, .int w0_112), (0, .ref b), (1, .int v1), (2, .int v2), (3, .ref (a 0)), (4, .ref (a 65)), (5, .ref (a 130)), (7, .int v7_56), (8, .int (((h_drawn L xs (v7_56 - v7_56 / 60 * 60)) / (1 + (v7_56 / 60))) + (7 * (v7_56 / 60))))]) hx hb dL_law_112 hl (by decide) rfl (fun ls hl => ?_)
            refine lv_iload hx hb dL_law_114 (lv_at hl 8 rfl) ?_
            refine lv_bipush (v := 40) hx hb dL_law_116 (by decide) ?_
            refine lv_idiv hx hb dL_law_118 (by decide) ?_
            refine lv_istore (lv' := [(10, .int ((((h_drawn L xs (v7_56 - v7_56 / 60 * 60)) / (1 + (v7_56 / 60))) + (7 * (v7_56 / 60))) / 40)), (9, .int w0_112), (0, .ref b), (1, .int v1), (2, .int v2), (3, .ref (a 0)), (4, .ref (a 65)), (5, .ref (a 130)), (7, .int v7_56), (8, .int (((h_drawn L xs (v7_56 - v7_56 / 60 * 60)) / (1 + (v7_56 / 60))) + (7 * (v7_56 / 60))))]) hx hb dL_law_119 hl (by decide) rfl (fun ls hl => ?_)
            refine lv_iload hx hb dL_law_121 (lv_at hl 0 rfl) ?_
            refine lv_iload_n hx hb dL_law_123 rfl (lv_at hl 3 rfl) ?_
            obtain ⟨g_124, h⟩ := g_guard h
            refine lv_irem hx hb dL_law_124 g_124 ?_
            refine lv_istore (lv' := [(11, .int (((((h_drawn L xs (v7_56 - v7_56 / 60 * 60)) / (1 + (v7_56 / 60))) + (7 * (v7_56 / 60))) / 40) - ((((h_drawn L xs (v7_56 - v7_56 / 60 * 60)) / (1 + (v7_56 / 60))) + (7 * (v7_56 / 60))) / 40) / v1 * v1)), (10, .int ((((h_drawn L xs (v7_56 - v7_56 / 60 * 60)) / (1 + (v7_56 / 60))) + (7 * (v7_56 / 60))) / 40)), (9, .int w0_112), (0, .ref b), (1, .int v1), (2, .int v2), (3, .ref (a 0)), (4, .ref (a 65)), (5, .ref (a 130)), (7, .int v7_56), (8, .int (((h_drawn L xs (v7_56 - v7_56 / 60 * 60)) / (1 + (v7_56 / 60))) + (7 * (v7_56 / 60))))]) hx hb dL_law_125 hl (by decide) rfl (fun ls hl => ?_)
            refine lv_iload hx hb dL_law_127 (lv_at hl 1 rfl) ?_
            refine lv_bipush (v := 12) hx hb dL_law_129 (by decide) ?_
            refine lv_idiv hx hb dL_law_131 (by decide) ?_
            refine lv_iload_n hx hb dL_law_132 rfl (lv_at hl 5 rfl) ?_
            obtain ⟨g_133, h⟩ := g_guard h
            refine lv_irem hx hb dL_law_133 g_133 ?_
            refine lv_istore (lv' := [(12, .int ((((((h_drawn L xs (v7_56 - v7_56 / 60 * 60)) / (1 + (v7_56 / 60))) + (7 * (v7_56 / 60))) / 40) / 12) - (((((h_drawn L xs (v7_56 - v7_56 / 60 * 60)) / (1 + (v7_56 / 60))) + (7 * (v7_56 / 60))) / 40) / 12) / v2 * v2)), (11, .int (((((h_drawn L xs (v7_56 - v7_56 / 60 * 60)) / (1 + (v7_56 / 60))) + (7 * (v7_56 / 60))) / 40) - ((((h_drawn L xs (v7_56 - v7_56 / 60 * 60)) / (1 + (v7_56 / 60))) + (7 * (v7_56 / 60))) / 40) / v1 * v1)), (10, .int ((((h_drawn L xs (v7_56 - v7_56 / 60 * 60)) / (1 + (v7_56 / 60))) + (7 * (v7_56 / 60))) / 40)), (9, .int w0_112), (0, .ref b), (1, .int v1), (2, .int v2), (3, .ref (a 0)), (4, .ref (a 65)), (5, .ref (a 130)), (7, .int v7_56), (8, .int (((h_drawn L xs (v7_56 - v7_56 / 60 * 60)) / (1 + (v7_56 / 60))) + (7 * (v7_56 / 60))))]) hx hb dL_law_134 hl (by decide) rfl (fun ls hl => ?_)
            refine lv_iload hx hb dL_law_136 (lv_at hl 3 rfl) ?_
            refine lv_iconst (v := 4) hx hb dL_law_138 (by decide) ?_
            obtain ⟨j802, hj802, h⟩ := gJoin2_in h
            have J802 : ∀ (v6_802 : Int32) (s_802 : lSt) (H : Heap) (locs : List Loc) (ls : Array Slot), j802 v6_802 s_802 = some out → g_LS A D a (lE a cI s_802) s H locs → lv_has ls 15 [(0, .ref b), (1, .int v1), (2, .int v2), (3, .ref (a 0)), (4, .ref (a 65)), (5, .ref (a 130)), (6, .int v6_802), (7, .int v7_56), (8, .int (((h_drawn L xs (v7_56 - v7_56 / 60 * 60)) / (1 + (v7_56 / 60))) + (7 * (v7_56 / 60))))] → W p l e room_1 s m #[Value.ref b] below meth c H locs (131 + 66 * (121 - (n56 + 1)) + 10) (6935 + 396 * (121 - (n56 + 1)) + 60) Q (F0 m 802 ls []) := by
              intro v6_802 s_802 H locs ls h hI hl
              rw [hj802] at h
              refine lv_iload hx hb dL_law_802 (lv_at hl 6 rfl) ?_
              obtain ⟨j835, hj835, h⟩ := gJoin2_in h
              have J835 : ∀ (w0_835 : Int32) (s_835 : lSt) (H : Heap) (locs : List Loc) (ls : Array Slot), j835 w0_835 s_835 = some out → g_LS A D a (lE a cI s_835) s H locs → lv_has ls 15 [(0, .ref b), (1, .int v1), (2, .int v2), (3, .ref (a 0)), (4, .ref (a 65)), (5, .ref (a 130)), (7, .int v7_56)] → W p l e room_1 s m #[Value.ref b] below meth c H locs (131 + 66 * (121 - (n56 + 1)) + 66) (6935 + 396 * (121 - (n56 + 1)) + 396) Q (F0 m 835 ls [.int w0_835]) := by
                intro w0_835 s_835 H locs ls h hI hl
                rw [hj835] at h
                refine lv_istore (lv' := [(6, .int w0_835), (0, .ref b), (1, .int v1), (2, .int v2), (3, .ref (a 0)), (4, .ref (a 65)), (5, .ref (a 130)), (7, .int v7_56)]) hx hb dL_law_835 hl (by decide) rfl (fun ls hl => ?_)
                refine lv_iinc (v := v7_56 + 1) (lv' := [(7, .int (v7_56 + 1)), (6, .int w0_835), (0, .ref b), (1, .int v1), (2, .int v2), (3, .ref (a 0)), (4, .ref (a 65)), (5, .ref (a 130))]) hx hb dL_law_837 hl (k := 7) rfl rfl (by decide) rfl (fun ls hl => ?_)
                refine lv_goto (tgt := 56) hx hb dL_law_840 (by decide) ?_
                refine W.widen (k := (131 + 66 * (121 - n56) + 0)) (n := (6935 + 396 * (121 - n56) + 0)) (by omega) (by omega) ?_
                exact ih56 (by omega) _ _ _ _ _ _ h hI (lv_sub hl [2, 3, 4, 5, 6, 7, 1, 0] rfl)
              obtain ⟨j834, hj834, h⟩ := gJoin1_in h
              have J834 : ∀ (s_834 : lSt) (H : Heap) (locs : List Loc) (ls : Array Slot), j834 s_834 = some out → g_LS A D a (lE a cI s_834) s H locs → lv_has ls 15 [(0, .ref b), (1, .int v1), (2, .int v2), (3, .ref (a 0)), (4, .ref (a 65)), (5, .ref (a 130)), (7, .int v7_56)] → W p l e room_1 s m #[Value.ref b] below meth c H locs (131 + 66 * (121 - (n56 + 1)) + 66) (6935 + 396 * (121 - (n56 + 1)) + 396) Q (F0 m 834 ls []) := by
                intro s_834 H locs ls h hI hl
                rw [hj834] at h
                refine lv_iconst (v := 0) hx hb dL_law_834 (by decide) ?_
                refine W.widen (k := (131 + 66 * (121 - (n56 + 1)) + 66)) (n := (6935 + 396 * (121 - (n56 + 1)) + 396)) (by omega) (by omega) ?_
                exact J835 _ _ _ _ _ h hI (lv_sub hl [0, 1, 2, 3, 4, 5, 6] rfl)
              refine lv_if_eq (tgt := 834) hx hb dL_law_804 (by decide) (fun c_804 => ?_) (fun c_804 => ?_)
              · have h := (if_pos c_804).symm.trans h
                refine W.widen (k := (131 + 66 * (121 - (n56 + 1)) + 66)) (n := (6935 + 396 * (121 - (n56 + 1)) + 396)) (by omega) (by omega) ?_
                exact J834 _ _ _ _ h hI (lv_sub hl [0, 1, 2, 3, 4, 5, 7] rfl)
              · have h := (if_neg c_804).symm.trans h
                refine lv_iload hx hb dL_law_807 (lv_at hl 7 rfl) ?_
                refine lv_iconst (v := 4) hx hb dL_law_809 (by decide) ?_
                refine lv_irem hx hb dL_law_810 (by decide) ?_
                refine lv_iconst (v := 3) hx hb dL_law_811 (by decide) ?_
                obtain ⟨j830, hj830, h⟩ := gJoin1_in h
                have J830 : ∀ (s_830 : lSt) (H : Heap) (locs : List Loc) (ls : Array Slot), j830 s_830 = some out → g_LS A D a (lE a cI s_830) s H locs → lv_has ls 15 [(0, .ref b), (1, .int v1), (2, .int v2), (3, .ref (a 0)), (4, .ref (a 65)), (5, .ref (a 130)), (7, .int v7_56)] → W p l e room_1 s m #[Value.ref b] below meth c H locs (131 + 66 * (121 - (n56 + 1)) + 66) (6935 + 396 * (121 - (n56 + 1)) + 396) Q (F0 m 830 ls []) := by
                  intro s_830 H locs ls h hI hl
                  rw [hj830] at h
                  refine lv_iconst (v := 1) hx hb dL_law_830 (by decide) ?_
                  refine lv_goto (tgt := 835) hx hb dL_law_831 (by decide) ?_
                  refine W.widen (k := (131 + 66 * (121 - (n56 + 1)) + 66)) (n := (6935 + 396 * (121 - (n56 + 1)) + 396)) (by omega) (by omega) ?_
                  exact J835 _ _ _ _ _ h hI (lv_sub hl [0, 1, 2, 3, 4, 5, 6] rfl)
                refine lv_icmp_lt (tgt := 830) hx hb dL_law_812 (by decide) (fun c_812 => ?_) (fun c_812 => ?_)
                · have h := (if_pos c_812).symm.trans h
                  refine W.widen (k := (131 + 66 * (121 - (n56 + 1)) + 66)) (n := (6935 + 396 * (121 - (n56 + 1)) + 396)) (by omega) (by omega) ?_
                  exact J830 _ _ _ _ h hI (lv_sub hl [0, 1, 2, 3, 4, 5, 7] rfl)
                · have h := (if_neg c_812).symm.trans h
                  refine lv_aload_n hx hb dL_law_815 rfl (lv_at hl 3 rfl) ?_
                  refine lv_aload hx hb dL_law_816 (lv_at hl 4 rfl) ?_
                  refine lv_aload hx hb dL_law_818 (lv_at hl 5 rfl) ?_
                  refine lv_iload hx hb dL_law_820 (lv_at hl 8 rfl) ?_
                  refine lv_iconst (v := 3) hx hb dL_law_822 (by decide) ?_
                  refine lv_idiv hx hb dL_law_823 (by decide) ?_
                  obtain ⟨q_824, e_824, h⟩ := gBind_in h
                  refine g_lsame (S := s_802) (S' := q_824.2) (r := q_824.1) (As := [.ref (a 0), .ref (a 65), .ref (a 130), .int ((((h_drawn L xs (v7_56 - v7_56 / 60 * 60)) / (1 + (v7_56 / 60))) + (7 * (v7_56 / 60))) / 3)]) (rest := []) F hI (c_L_same l D a cI F.2.2.1 F.2.2.2.2.2.2.2 sa N s_802 ((((h_drawn L xs (v7_56 - v7_56 / 60 * 60)) / (1 + (v7_56 / 60))) + (7 * (v7_56 / 60))) / 3) q_824 e_824) kb_L_same kt_L_same km_L_139 ⟨(Nat.le_of_ble_eq_true rfl), (Nat.le_of_ble_eq_true rfl), rfl, rfl⟩ hl.1 rfl (Nat.le_of_ble_eq_true rfl) ⟨(by show _ ≤ 624708; omega), (by show _ ≤ 7227575; omega)⟩ dL_law_824 (fun H locs hI => ?_)
                  refine lv_if_eq (tgt := 834) hx hb dL_law_827 (by decide) (fun c_827 => ?_) (fun c_827 => ?_)
                  · have h := (if_pos c_827).symm.trans h
                    refine W.widen (k := (131 + 66 * (121 - (n56 + 1)) + 66)) (n := (6935 + 396 * (121 - (n56 + 1)) + 396)) (by omega) (by omega) ?_
                    exact J834 _ _ _ _ h hI (lv_sub hl [0, 1, 2, 3, 4, 5, 7] rfl)
                  · have h := (if_neg c_827).symm.trans h
                    refine W.widen (k := (131 + 66 * (121 - (n56 + 1)) + 66)) (n := (6935 + 396 * (121 - (n56 + 1)) + 396)) (by omega) (by omega) ?_
                    exact J830 _ _ _ _ h hI (lv_sub hl [0, 1, 2, 3, 4, 5, 7] rfl)
            refine lv_icmp_ge (tgt := 192) hx hb dL_law_139 (by decide) (fun c_139 => ?_) (fun c_139 => ?_)
            · have h := (if_pos c_139).symm.trans h
              refine lv_iload hx hb dL_law_192 (lv_at hl 3 rfl) ?_
              refine lv_bipush (v := 7) hx hb dL_law_194 (by decide) ?_
              refine lv_icmp_ge (tgt := 273) hx hb dL_law_196 (by decide) (fun c_196 => ?_) (fun c_196 => ?_)
              · have h := (if_pos c_196).symm.trans h
                refine lv_iload hx hb dL_law_273 (lv_at hl 3 rfl) ?_
                refine lv_bipush (v := 11) hx hb dL_law_275 (by decide) ?_
                refine lv_icmp_ge (tgt := 360) hx hb dL_law_277 (by decide) (fun c_277 => ?_) (fun c_277 => ?_)
                · have h := (if_pos c_277).symm.trans h
                  refine lv_iload hx hb dL_law_360 (lv_at hl 3 rfl) ?_
                  refine lv_bipush (v := 14) hx hb dL_law_362 (by decide) ?_
                  refine lv_icmp_ge (tgt := 401) hx hb dL_law_364 (by decide) (fun c_364 => ?_) (fun c_364 => ?_)
                  · have h := (if_pos c_364).symm.trans h
                    refine lv_iload hx hb dL_law_401 (lv_at hl 3 rfl) ?_
                    refine lv_bipush (v := 19) hx hb dL_law_403 (by decide) ?_
                    refine lv_icmp_ge (tgt := 456) hx hb dL_law_405 (by decide) (fun c_405 => ?_) (fun c_405 => ?_)
                    · have h := (if_pos c_405).symm.trans h
                      refine lv_iload hx hb dL_law_456 (lv_at hl 3 rfl) ?_
                      refine lv_bipush (v := 19) hx hb dL_law_458 (by decide) ?_
                      refine lv_icmp_ne (tgt := 511) hx hb dL_law_460 (by decide) (fun c_460 => ?_) (fun c_460 => ?_)
                      · have h := (if_neg c_460).symm.trans h
                        refine lv_iload hx hb dL_law_511 (lv_at hl 3 rfl) ?_
                        refine lv_bipush (v := 24) hx hb dL_law_513 (by decide) ?_
                        refine lv_icmp_ge (tgt := 585) hx hb dL_law_515 (by decide) (fun c_515 => ?_) (fun c_515 => ?_)
                        · have h := (if_pos c_515).symm.trans h
                          refine lv_iload hx hb dL_law_585 (lv_at hl 3 rfl) ?_
                          refine lv_bipush (v := 26) hx hb dL_law_587 (by decide) ?_
                          refine lv_icmp_ge (tgt := 650) hx hb dL_law_589 (by decide) (fun c_589 => ?_) (fun c_589 => ?_)
                          · have h := (if_pos c_589).symm.trans h
                            refine lv_iload hx hb dL_law_650 (lv_at hl 3 rfl) ?_
                            refine lv_bipush (v := 26) hx hb dL_law_652 (by decide) ?_
                            refine lv_icmp_ne (tgt := 719) hx hb dL_law_654 (by decide) (fun c_654 => ?_) (fun c_654 => ?_)
                            · have h := (if_neg c_654).symm.trans h
                              refine W.widen (k := (131 + 66 * (121 - (n56 + 1)) + 0)) (n := (6935 + 396 * (121 - (n56 + 1)) + 0)) (by omega) (by omega) ?_
                              refine w_case9 (b := b) (v1 := v1) (v2 := v2) (v7 := v7_56) (v8 := (((h_drawn L xs (v7_56 - v7_56 / 60 * 60)) / (1 + (v7_56 / 60))) + (7 * (v7_56 / 60)))) (v10 := ((((h_drawn L xs (v7_56 - v7_56 / 60 * 60)) / (1 + (v7_56 / 60))) + (7 * (v7_56 / 60))) / 40)) F (by omega) (by omega) (fun v6 S H locs ls h hI hl => W.widen (by omega) (by omega) (J802 v6 S H locs ls h hI hl)) h hI (lv_sub hl [4, 5, 6, 7, 8, 9, 10, 11, 2] rfl)
                            · have h := (if_pos c_654).symm.trans h
                              refine W.widen (k := (131 + 66 * (121 - (n56 + 1)) + 0)) (n := (6935 + 396 * (121 - (n56 + 1)) + 0)) (by omega) (by omega) ?_
                              refine w_case8 (b := b) (v1 := v1) (v2 := v2) (v7 := v7_56) (v8 := (((h_drawn L xs (v7_56 - v7_56 / 60 * 60)) / (1 + (v7_56 / 60))) + (7 * (v7_56 / 60)))) (v10 := ((((h_drawn L xs (v7_56 - v7_56 / 60 * 60)) / (1 + (v7_56 / 60))) + (7 * (v7_56 / 60))) / 40)) F (by omega) (by omega) (fun v6 S H locs ls h hI hl => W.widen (by omega) (by omega) (J802 v6 S H locs ls h hI hl)) h hI (lv_sub hl [4, 5, 6, 7, 8, 9, 10, 11, 2] rfl)
                          · have h := (if_neg c_589).symm.trans h
                            refine W.widen (k := (131 + 66 * (121 - (n56 + 1)) + 0)) (n := (6935 + 396 * (121 - (n56 + 1)) + 0)) (by omega) (by omega) ?_
                            refine w_case7 (b := b) (v1 := v1) (v2 := v2) (v7 := v7_56) (v8 := (((h_drawn L xs (v7_56 - v7_56 / 60 * 60)) / (1 + (v7_56 / 60))) + (7 * (v7_56 / 60)))) (v10 := ((((h_drawn L xs (v7_56 - v7_56 / 60 * 60)) / (1 + (v7_56 / 60))) + (7 * (v7_56 / 60))) / 40)) F (by omega) (by omega) (fun v6 S H locs ls h hI hl => W.widen (by omega) (by omega) (J802 v6 S H locs ls h hI hl)) h hI (lv_sub hl [4, 5, 6, 7, 8, 9, 10, 11, 2] rfl)
                        · have h := (if_neg c_515).symm.trans h
                          refine W.widen (k := (131 + 66 * (121 - (n56 + 1)) + 0)) (n := (6935 + 396 * (121 - (n56 + 1)) + 0)) (by omega) (by omega) ?_
                          refine w_case6 (b := b) (v1 := v1) (v2 := v2) (v7 := v7_56) (v8 := (((h_drawn L xs (v7_56 - v7_56 / 60 * 60)) / (1 + (v7_56 / 60))) + (7 * (v7_56 / 60)))) (v10 := ((((h_drawn L xs (v7_56 - v7_56 / 60 * 60)) / (1 + (v7_56 / 60))) + (7 * (v7_56 / 60))) / 40)) F (by omega) (by omega) (fun v6 S H locs ls h hI hl => W.widen (by omega) (by omega) (J802 v6 S H locs ls h hI hl)) h hI (lv_sub hl [4, 5, 6, 7, 8, 9, 10, 11, 2] rfl)
                      · have h := (if_pos c_460).symm.trans h
                        refine W.widen (k := (131 + 66 * (121 - (n56 + 1)) + 0)) (n := (6935 + 396 * (121 - (n56 + 1)) + 0)) (by omega) (by omega) ?_
                        refine w_case5 (b := b) (v1 := v1) (v2 := v2) (v7 := v7_56) (v8 := (((h_drawn L xs (v7_56 - v7_56 / 60 * 60)) / (1 + (v7_56 / 60))) + (7 * (v7_56 / 60)))) (v10 := ((((h_drawn L xs (v7_56 - v7_56 / 60 * 60)) / (1 + (v7_56 / 60))) + (7 * (v7_56 / 60))) / 40)) F (by omega) (by omega) (fun v6 S H locs ls h hI hl => W.widen (by omega) (by omega) (J802 v6 S H locs ls h hI hl)) h hI (lv_sub hl [4, 5, 6, 7, 8, 9, 10, 11, 2] rfl)
                    · have h := (if_neg c_405).symm.trans h
                      refine W.widen (k := (131 + 66 * (121 - (n56 + 1)) + 0)) (n := (6935 + 396 * (121 - (n56 + 1)) + 0)) (by omega) (by omega) ?_
                      refine w_case4 (b := b) (v1 := v1) (v2 := v2) (v7 := v7_56) (v8 := (((h_drawn L xs (v7_56 - v7_56 / 60 * 60)) / (1 + (v7_56 / 60))) + (7 * (v7_56 / 60)))) (v10 := ((((h_drawn L xs (v7_56 - v7_56 / 60 * 60)) / (1 + (v7_56 / 60))) + (7 * (v7_56 / 60))) / 40)) F (by omega) (by omega) (fun v6 S H locs ls h hI hl => W.widen (by omega) (by omega) (J802 v6 S H locs ls h hI hl)) h hI (lv_sub hl [4, 5, 6, 7, 8, 9, 10, 11, 2] rfl)
                  · have h := (if_neg c_364).symm.trans h
                    refine W.widen (k := (131 + 66 * (121 - (n56 + 1)) + 0)) (n := (6935 + 396 * (121 - (n56 + 1)) + 0)) (by omega) (by omega) ?_
                    refine w_case3 (b := b) (v1 := v1) (v2 := v2) (v7 := v7_56) (v8 := (((h_drawn L xs (v7_56 - v7_56 / 60 * 60)) / (1 + (v7_56 / 60))) + (7 * (v7_56 / 60)))) (v11 := (((((h_drawn L xs (v7_56 - v7_56 / 60 * 60)) / (1 + (v7_56 / 60))) + (7 * (v7_56 / 60))) / 40) - ((((h_drawn L xs (v7_56 - v7_56 / 60 * 60)) / (1 + (v7_56 / 60))) + (7 * (v7_56 / 60))) / 40) / v1 * v1)) (v12 := ((((((h_drawn L xs (v7_56 - v7_56 / 60 * 60)) / (1 + (v7_56 / 60))) + (7 * (v7_56 / 60))) / 40) / 12) - (((((h_drawn L xs (v7_56 - v7_56 / 60 * 60)) / (1 + (v7_56 / 60))) + (7 * (v7_56 / 60))) / 40) / 12) / v2 * v2)) F (by omega) (by omega) (fun v6 S H locs ls h hI hl => W.widen (by omega) (by omega) (J802 v6 S H locs ls h hI hl)) h hI (lv_sub hl [4, 5, 6, 7, 8, 9, 10, 11, 1, 0] rfl)
                · have h := (if_neg c_277).symm.trans h
                  refine W.widen (k := (131 + 66 * (121 - (n56 + 1)) + 0)) (n := (6935 + 396 * (121 - (n56 + 1)) + 0)) (by omega) (by omega) ?_
                  refine w_case2 (b := b) (v1 := v1) (v2 := v2) (v7 := v7_56) (v8 := (((h_drawn L xs (v7_56 - v7_56 / 60 * 60)) / (1 + (v7_56 / 60))) + (7 * (v7_56 / 60)))) (v10 := ((((h_drawn L xs (v7_56 - v7_56 / 60 * 60)) / (1 + (v7_56 / 60))) + (7 * (v7_56 / 60))) / 40)) (v11 := (((((h_drawn L xs (v7_56 - v7_56 / 60 * 60)) / (1 + (v7_56 / 60))) + (7 * (v7_56 / 60))) / 40) - ((((h_drawn L xs (v7_56 - v7_56 / 60 * 60)) / (1 + (v7_56 / 60))) + (7 * (v7_56 / 60))) / 40) / v1 * v1)) (v12 := ((((((h_drawn L xs (v7_56 - v7_56 / 60 * 60)) / (1 + (v7_56 / 60))) + (7 * (v7_56 / 60))) / 40) / 12) - (((((h_drawn L xs (v7_56 - v7_56 / 60 * 60)) / (1 + (v7_56 / 60))) + (7 * (v7_56 / 60))) / 40) / 12) / v2 * v2)) F (by omega) (by omega) (fun v6 S H locs ls h hI hl => W.widen (by omega) (by omega) (J802 v6 S H locs ls h hI hl)) h hI (lv_sub hl [4, 5, 6, 7, 8, 9, 10, 11, 2, 1, 0] rfl)
              · have h := (if_neg c_196).symm.trans h
                refine W.widen (k := (131 + 66 * (121 - (n56 + 1)) + 0)) (n := (6935 + 396 * (121 - (n56 + 1)) + 0)) (by omega) (by omega) ?_
                refine w_case1 (b := b) (v1 := v1) (v2 := v2) (v7 := v7_56) (v8 := (((h_drawn L xs (v7_56 - v7_56 / 60 * 60)) / (1 + (v7_56 / 60))) + (7 * (v7_56 / 60)))) (v10 := ((((h_drawn L xs (v7_56 - v7_56 / 60 * 60)) / (1 + (v7_56 / 60))) + (7 * (v7_56 / 60))) / 40)) (v11 := (((((h_drawn L xs (v7_56 - v7_56 / 60 * 60)) / (1 + (v7_56 / 60))) + (7 * (v7_56 / 60))) / 40) - ((((h_drawn L xs (v7_56 - v7_56 / 60 * 60)) / (1 + (v7_56 / 60))) + (7 * (v7_56 / 60))) / 40) / v1 * v1)) (v12 := ((((((h_drawn L xs (v7_56 - v7_56 / 60 * 60)) / (1 + (v7_56 / 60))) + (7 * (v7_56 / 60))) / 40) / 12) - (((((h_drawn L xs (v7_56 - v7_56 / 60 * 60)) / (1 + (v7_56 / 60))) + (7 * (v7_56 / 60))) / 40) / 12) / v2 * v2)) F (by omega) (by omega) (fun v6 S H locs ls h hI hl => W.widen (by omega) (by omega) (J802 v6 S H locs ls h hI hl)) h hI (lv_sub hl [4, 5, 6, 7, 8, 9, 10, 11, 2, 1, 0] rfl)
            · have h := (if_neg c_139).symm.trans h
              refine W.widen (k := (131 + 66 * (121 - (n56 + 1)) + 0)) (n := (6935 + 396 * (121 - (n56 + 1)) + 0)) (by omega) (by omega) ?_
              refine w_case0 (b := b) (v1 := v1) (v2 := v2) (v7 := v7_56) (v8 := (((h_drawn L xs (v7_56 - v7_56 / 60 * 60)) / (1 + (v7_56 / 60))) + (7 * (v7_56 / 60)))) (v10 := ((((h_drawn L xs (v7_56 - v7_56 / 60 * 60)) / (1 + (v7_56 / 60))) + (7 * (v7_56 / 60))) / 40)) (v11 := (((((h_drawn L xs (v7_56 - v7_56 / 60 * 60)) / (1 + (v7_56 / 60))) + (7 * (v7_56 / 60))) / 40) - ((((h_drawn L xs (v7_56 - v7_56 / 60 * 60)) / (1 + (v7_56 / 60))) + (7 * (v7_56 / 60))) / 40) / v1 * v1)) (v12 := ((((((h_drawn L xs (v7_56 - v7_56 / 60 * 60)) / (1 + (v7_56 / 60))) + (7 * (v7_56 / 60))) / 40) / 12) - (((((h_drawn L xs (v7_56 - v7_56 / 60 * 60)) / (1 + (v7_56 / 60))) + (7 * (v7_56 / 60))) / 40) / 12) / v2 * v2)) F (by omega) (by omega) (fun v6 S H locs ls h hI hl => W.widen (by omega) (by omega) (J802 v6 S H locs ls h hI hl)) h hI (lv_sub hl [4, 5, 6, 7, 8, 9, 10, 11, 2, 1, 0] rfl)
          refine lv_icmp_ge (tgt := 107) hx hb dL_law_99 (by decide) (fun c_99 => ?_) (fun c_99 => ?_)
          · have h := (if_pos c_99).symm.trans h
            refine lv_iload hx hb dL_law_107 (lv_at hl 0 rfl) ?_
            refine lv_bipush (v := 40) hx hb dL_law_109 (by decide) ?_
            refine lv_irem hx hb dL_law_111 (by decide) ?_
            refine W.widen (k := (131 + 66 * (121 - (n56 + 1)) + 0)) (n := (6935 + 396 * (121 - (n56 + 1)) + 0)) (by omega) (by omega) ?_
            exact J112 _ _ _ _ h hI (lv_sub hl [1, 2, 3, 4, 5, 6, 8, 0] rfl)
          · have h := (if_neg c_99).symm.trans h
            refine lv_bipush (v := 11) hx hb dL_law_102 (by decide) ?_
            refine lv_goto (tgt := 112) hx hb dL_law_104 (by decide) ?_
            refine W.widen (k := (131 + 66 * (121 - (n56 + 1)) + 0)) (n := (6935 + 396 * (121 - (n56 + 1)) + 0)) (by omega) (by omega) ?_
            exact J112 _ _ _ _ h hI (lv_sub hl [1, 2, 3, 4, 5, 6, 8, 0] rfl)
  refine W.widen (k := (131 + 66 * (121 - 121) + 0)) (n := (6935 + 396 * (121 - 121) + 0)) (by omega) (by omega) ?_
  exact L56 121 (Nat.le_refl _) _ _ _ _ _ _ h hI (lv_sub hl [1, 2, 3, 4, 5, 6, 7, 0] rfl)
