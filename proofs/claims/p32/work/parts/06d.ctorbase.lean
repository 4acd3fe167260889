/-! constructors: worlds of written cells, addresses one behind another -/
theorem ki_Obj : Cond.instanceMethod Lib.objectInit ∈ gW := gW_t (List.mem_append_left _ (show _ ∈ tables_1_1 from List.mem_of_getElem? (i := 24) (by decide +kernel))) (by decide +kernel)
theorem kc_Obj : Cond.code Lib.objectInit ⟨#[0xb1]⟩ 1 none ∈ gW := gW_t (List.mem_append_left _ (show _ ∈ tables_1_1 from List.mem_of_getElem? (i := 25) (by decide +kernel))) (by decide +kernel)
def g_Ct (D : va_G) (A : Nat → Prop) (ws : va_W) (z : Nat) (t : State) : Prop := va_P D vwCl ws t.heap ∧ va_D A ws ∧ t.heap.size = z
def g_CPc (D : va_G) (e0 : Nat × va_E) (tys : List (ClassId × FieldType)) (sz : Nat) (av : List Value) : Array Value → State → Prop := va_Pc av (fun U => U.heap.size = sz ∧ va_P D vwCl [e0] U.heap ∧ va_K D vwCl tys U)
def g_CQ (D : va_G) (e0 : Nat × va_E) (ws : va_W) (sz z : Nat) : Array Value → State → Outcome → State → Prop := va_Qv (fun (_ : Unit) => True) (fun (_ : Unit) t => g_Ct D (va_A [e0] sz) ws z t) (va_A [e0] sz)
theorem g_blindC {D : va_G} {e0 : Nat × va_E} {tys : List (ClassId × FieldType)} {sz : Nat} {av : List Value} : FrameBlind (g_CPc D e0 tys sz av) := fun aa U g mk q => ⟨q.1, q.2.1, q.2.2.1, va_K.moved (u := U) (U := U.calling g mk aa) (Vm.Alike.refl U.vm) q.2.2.2⟩
theorem g_D1 {e0 : Nat × va_E} {sz : Nat} : va_D (va_A [e0] sz) [e0] := by
  refine ⟨fun i j p q hi hj _ => ?_, fun k q hk => va_A.in hk⟩
  have h1 : i < 1 := (List.getElem?_eq_some_iff.mp hi).1
  have h2 : j < 1 := (List.getElem?_eq_some_iff.mp hj).1
  omega
theorem g_P1 {D : va_G} {ws : va_W} {H : Heap} {i : Nat} {e0 : Nat × va_E} (hP : va_P D vwCl ws H) (h : ws[i]? = some e0) : va_P D vwCl [e0] H := by
  intro k q hk
  have h1 : k < 1 := (List.getElem?_eq_some_iff.mp hk).1
  rw [show k = 0 by omega] at hk
  cases hk
  exact hP i _ h
section GC
variable {p : Program} {l : Launch} {e : Env} {R : Room} {s : State} {m : MethodId} {args : Array Value} {below : List Frame} {meth : Method} {c : Code} {H : Heap} {locs : List Loc} {cells slots : Nat} {Q : State → Prop} {cc : ByteArray} {nL : Nat} {own : String} {D : va_G} {tys : List (ClassId × FieldType)} {pc : Nat} {ls : Array Slot} {rest : List Value} {A : Nat → Prop} {ws : va_W} {index : Nat}
theorem g_tnew (F : CallFix p m c cc nL s args gW own) (hK : va_K D vwCl tys s) (hP : va_P D vwCl ws H) (hD : va_D A ws) (hS : va_S A s.heap H locs) (hA : ∀ q, s.heap.size ≤ q → A q) {C : String} {T : u_T} {N ci k : Nat} {fs : List Value} (hz : H.size = k) (hu : ∀ w ∈ u_ws C T N, w ∈ gW) {ty0 : Nat → FieldType} (hty : ∀ k, k < N → parseFieldDescriptor (T k).2.2.1 = some (ty0 k)) (hcl : Cond.classLink own index C ∈ gW) (hinst : Cond.instantiable C N ∈ gW) (hini : Cond.initialized C ∈ gW) (hc : vwCl[ci]? = some (C, T, N)) (hfs : ∀ j, j < N → defaultValue (ty0 j) = vp_V fs j) (hcells : cells + 1 ≤ R.cells) (hslots : slots + N ≤ R.slots) (hdg : decode cc pc = .ok (.new index, 3))
    (kk : ∀ (H1 : Heap), va_P D vwCl (ws ++ [(k, .inr (ci, fs))]) H1 → va_D A (ws ++ [(k, .inr (ci, fs))]) → va_S A s.heap H1 locs → H1.size = k + 1 → W p l e R s m args below meth c H1 locs (cells + 1) (slots + N) Q (F0 m (pc + 3) ls (.ref k :: rest))) : W p l e R s m args below meth c H locs cells slots Q (F0 m pc ls rest) := by
  subst hz
  have hKn := hK.1 ci _ hc
  refine W.newcK F.1 F.2.1 F.2.2.2.1 (F.2.2.2.2 _ hcl) (F.2.2.2.2 _ hinst) (F.2.2.2.2 _ hini) rfl hdg hcells hslots hKn.2.1 rfl fun H1 kC hkC e1 z1 o1 => ?_
  have hk : ∀ (k : Nat) (x : Nat × va_E), ws[k]? = some x → H1[x.1]? = H[x.1]? := fun k x hx => o1 x.1 ((hP k x hx).lt)
  refine kk H1 ((hP.kept hk).app (fun k x hx => ?_)) (hD.push hP rfl (hA _ hS.1)) ⟨Nat.le_trans hS.1 (by omega), fun x h1 h2 => (o1 x (Nat.lt_of_lt_of_le h1 hS.1)).trans (hS.2.1 x h1 h2), hS.2.2⟩ z1
  have hz : k < 1 := (List.getElem?_eq_some_iff.mp hx).1
  rw [show k = 0 by omega] at hx
  cases hx
  exact ⟨_, hc, (u_born ty0 F.2.2.2.2 hu hKn hkC e1 hty).to hfs⟩
theorem g_tnewa (F : CallFix p m c cc nL s args gW own) (hK : va_K D vwCl tys s) (hP : va_P D vwCl ws H) (hD : va_D A ws) (hS : va_S A s.heap H locs) (hA : ∀ q, s.heap.size ≤ q → A q) {atype : ArrayType} (harr : Cond.arrayClass (newarray.typeOf atype) ∈ gW) {ty : FieldType} (hty : newarray.typeOf atype = ty) (hra : ∀ cA, va_RA s cA ty = (s.vm.findClass ("[" ++ ty.toString) = some cA)) {cA : ClassId} (t0 : Nat) (ht : tys[t0]? = some (cA, ty)) {n : Int32} {N' k : Nat} {a0 : vp_A} (hz : H.size = k) (ha : ∀ cA : ClassId, vp_cell cA a0 = arrV cA N' (fun _ => defaultValue ty)) (hn : ¬ n < 0) (hN : n.toNatClampNeg = N') (hbytes : N' * componentBytes ty ≤ 536870912) (hcells : cells + 1 ≤ R.cells) (hslots : slots + N' ≤ R.slots) (hdg : decode cc pc = .ok (.newarray atype, 2))
    (kk : ∀ (H1 : Heap), va_P D vwCl (ws ++ [(k, .inl (cA, a0))]) H1 → va_D A (ws ++ [(k, .inl (cA, a0))]) → va_S A s.heap H1 locs → H1.size = k + 1 → W p l e R s m args below meth c H1 locs (cells + 1) (slots + N') Q (F0 m (pc + 2) ls (.ref k :: rest))) : W p l e R s m args below meth c H locs cells slots Q (F0 m pc ls (.int n :: rest)) := by
  subst hty
  subst hz
  refine va_newaK F.1 F.2.1 (F.2.2.2.2 _ harr) rfl hdg rfl hn hN hbytes hcells hslots rfl fun H1 cA1 e1 z1 o1 hAr hNm => ?_
  have e2 := (hK.2 t0 _ ht).2
  rw [hra] at e2
  have e3 : cA1 = cA := Option.some.inj (hNm.symm.trans e2)
  subst e3
  have hk : ∀ (k : Nat) (x : Nat × va_E), ws[k]? = some x → H1[x.1]? = H[x.1]? := fun k x hx => o1 x.1 ((hP k x hx).lt)
  refine kk H1 ((hP.kept hk).app (fun k x hx => ?_)) (hD.push hP rfl (hA _ hS.1)) ⟨Nat.le_trans hS.1 (by omega), fun x h1 h2 => (o1 x (Nat.lt_of_lt_of_le h1 hS.1)).trans (hS.2.1 x h1 h2), hS.2.2⟩ z1
  have hz : k < 1 := (List.getElem?_eq_some_iff.mp hx).1
  rw [show k = 0 by omega] at hx
  cases hx
  show H1[H.size]? = some (vp_cell _ _)
  rw [ha]
  exact e1
theorem g_tputF (F : CallFix p m c cc nL s args gW own) (hK : va_K D vwCl tys s) (hP : va_P D vwCl ws H) (hD : va_D A ws) (hS : va_S A s.heap H locs) (hin2 : meth.name = "<init>") {C : String} {T : u_T} {N ci a i : Nat} {fs : List Value} {v : Value} {ty : FieldType} (hu : ∀ w ∈ u_ws C T N, w ∈ gW) {ty0 : Nat → FieldType} (hty : ∀ k, k < N → parseFieldDescriptor (T k).2.2.1 = some (ty0 k)) (hnm : ∀ a, a < N → ∀ b, b < N → a ≠ b → (T a).2.1 ≠ (T b).2.1) (q0 : Nat) (he : ws[q0]? = some (a, .inr (ci, fs))) (hc : vwCl[ci]? = some (C, T, N)) (k : Nat) (hk : k < N) (hl : Cond.fieldLink own i (T k).1 (T k).2.1 (T k).2.2.1 ∈ gW) (hfin : (T k).2.2.2 = true) (hdecl : (T k).1 = own) (hd : parseFieldDescriptor (T k).2.2.1 = some ty) (hn : narrow ty v = v) (hfit : fits ty v = true) (hlen : k < fs.length) (hdg : decode cc pc = .ok (.putfield i, 3))
    (kk : ∀ (H1 : Heap) (locs1 : List Loc), va_P D vwCl (ws.set q0 (a, .inr (ci, fs.set k v))) H1 → va_D A (ws.set q0 (a, .inr (ci, fs.set k v))) → va_S A s.heap H1 locs1 → H1.size = H.size → W p l e R s m args below meth c H1 locs1 cells slots Q (F0 m (pc + 3) ls rest)) : W p l e R s m args below meth c H locs cells slots Q (F0 m pc ls (v :: .ref a :: rest)) := by
  have hap := va_apart (own := own) F.2.2.2.2 hu ty0 hty hnm hK hc
  obtain ⟨r, h1, cell, q1, q2, q3, q4⟩ := hP q0 _ he
  have hr : r = (C, T, N) := Option.some.inj (h1.symm.trans hc)
  subst hr
  obtain ⟨hSl, hfc, kC, hkC, hkind⟩ := hK.1 ci _ hc
  obtain ⟨cf, kf, fi, f, hi, hsl⟩ := hSl k hk
  have hlay := F.2.2.2.2 _ (hu _ (u_in_lay hk))
  unfold u_lay at hlay
  rw [if_pos hfin] at hlay
  have hst := (u_facts hfc hkC (u_lays F.2.2.2.2 hu hk) hi).1
  have hcf : m.cls = cf := by
    obtain ⟨_, _, c', _, _, _, -, -, hf', -, -, -, hown2, -⟩ := Cond.laysFinal_spec hlay
    have e1 : c' = cf := by have := hi.symm.trans hf'; simp at this; exact this.1.symm
    rw [hdecl] at hown2
    rw [← e1]; exact Option.some.inj (F.2.2.2.1.symm.trans hown2)
  have h6 := u_fits hfc hkC hkind (Or.inr hlay) hi hd hn hfit
  refine W.putFinK F.1 F.2.1 F.2.2.2.1 (F.2.2.2.2 _ hl) hi hst hcf hin2 (by rw [q2]; exact h6) q1 q3 (by rw [hsl]; exact k2_hasslot (q4 k hk)) rfl rfl hdg fun H' e1 e2 e3 => ?_
  rw [hsl] at e1 ⊢
  exact kk H' _ (hP.set hD he ⟨_, hc, t_OB.to (V := updV (vp_V fs) k v) ⟨_, e1, q2, q3, t_set q4 hap hk v⟩ (fun j _ => vp_updV_set hlen v j)⟩ e3) (hD.set he) (hS.put e2 e3 (hD.2 q0 _ he)) e2
variable {y : MethodName} {bytes : ByteArray} {maxL mc ms : Nat} {rm : Room} {As st0 : List Value} {e0 : Nat × va_E} {wr w1 : va_W} {sz z : Nat}
theorem g_callC (F : CallFix p m c cc nL s args gW own) (hK : va_K D vwCl tys s) (hP : va_P D vwCl ws H) (hD : va_D A ws) (hS : va_S A s.heap H locs) (hA : ∀ q, s.heap.size ≤ q → A q) (hz : H.size = sz) (i0 : Nat) (isR : List Nat) (hC : ws[i0]? = some e0) (hR : isR.map (fun i => ws[i]?) = wr.map some) (hn : va_nd isR = true) (hdis : ∀ i ∈ isR, i ∉ [i0])
    (hM : Met l y (Cond.code y bytes maxL none :: gW) rm (g_CPc D e0 tys sz (.ref e0.1 :: As)) (g_CQ D e0 w1 sz z) mc ms (va_A [e0] sz)) (hb : g_CB y bytes maxL none As.length) (hy : y.name = "<init>") (hi : Cond.instanceMethod y ∈ gW) (h1 : Cond.methodLink own index y ∈ gW) (hRm : rm.frames + 1 ≤ R.frames ∧ 8 + (maxL + 11) + rm.locals ≤ R.locals ∧ rm.cells = mc ∧ rm.slots = ms)
    (hls : ls.size = nL) (hst : st0 = As.reverse ++ .ref e0.1 :: rest) (hW : (rest.map fun v => v.category).sum ≤ 8) (hcs : cells + mc ≤ R.cells ∧ slots + ms ≤ R.slots) (hdg : decode cc pc = .ok (.invokespecial index, 3))
    (kk : ∀ (H1 : Heap) (locs1 : List Loc), va_P D vwCl (wr ++ w1) H1 → va_D A (wr ++ w1) → va_S A s.heap H1 locs1 → H1.size = z → W p l e R s m args below meth c H1 locs1 (cells + mc) (slots + ms) Q (F0 m (pc + 3) ls rest)) : W p l e R s m args below meth c H locs cells slots Q (F0 m pc ls st0) := by
  subst hz
  have cb := g_cb (R := R) (s := s) (args := args) (rm := rm) F.2.2.2.2 hb h1 ⟨hRm.1, hRm.2.1⟩
  rw [hRm.2.2.1, hRm.2.2.2] at cb
  have hC1 : [i0].map (fun i => ws[i]?) = [e0].map some := by simp [hC]
  have hFc := va_free (wc := [e0]) hD hS hA [i0] hC1
  refine va_callv (va_runI (As := As) (rest := rest) F hM ⟨cb, hy, F.2.2.2.2 _ hi⟩ ⟨g_blindC, fun U hU hW => ⟨rfl, by rw [hU], by rw [hU]; exact g_P1 hP hC, va_K.moved hW.alike hK⟩⟩ rfl rfl hls hst (lv_room hW) hdg hcs) hS (fun q _ h => hFc q h) hFc (fun u t H1 locs1 ht hvm hw hB hz1 hk1 hS1 => ?_)
  obtain ⟨hP1, hD1, hz2⟩ := hB
  rw [ht] at hP1 hz2
  obtain ⟨a1, a2⟩ := va_join hP hD [i0] isR hC1 hR hn hdis hk1 hFc hP1 hD1
  exact kk H1 locs1 a1 a2 hS1 hz2
theorem g_callCN {host : String} (F : CallFix p m c cc nL s args gW own) (hK : va_K D vwCl tys s) (hP : va_P D vwCl ws H) (hD : va_D A ws) (hS : va_S A s.heap H locs) (hA : ∀ q, s.heap.size ≤ q → A q) (hz : H.size = sz) (i0 : Nat) (isR : List Nat) (hC : ws[i0]? = some e0) (hR : isR.map (fun i => ws[i]?) = wr.map some) (hn : va_nd isR = true) (hdis : ∀ i ∈ isR, i ∉ [i0])
    (hM : Met l y (Cond.code y bytes maxL none :: gW) rm (g_CPc D e0 tys sz (.ref e0.1 :: As)) (g_CQ D e0 w1 sz z) mc ms (va_A [e0] sz)) (hb : g_CB y bytes maxL none As.length) (hy : y.name = "<init>") (hi : Cond.instanceMethod y ∈ gW) (h1 : va_Nw (.methodLinkNest own index y host) s) (hRm : rm.frames + 1 ≤ R.frames ∧ 8 + (maxL + 11) + rm.locals ≤ R.locals ∧ rm.cells = mc ∧ rm.slots = ms)
    (hls : ls.size = nL) (hst : st0 = As.reverse ++ .ref e0.1 :: rest) (hW : (rest.map fun v => v.category).sum ≤ 8) (hcs : cells + mc ≤ R.cells ∧ slots + ms ≤ R.slots) (hdg : decode cc pc = .ok (.invokespecial index, 3))
    (kk : ∀ (H1 : Heap) (locs1 : List Loc), va_P D vwCl (wr ++ w1) H1 → va_D A (wr ++ w1) → va_S A s.heap H1 locs1 → H1.size = z → W p l e R s m args below meth c H1 locs1 (cells + mc) (slots + ms) Q (F0 m (pc + 3) ls rest)) : W p l e R s m args below meth c H locs cells slots Q (F0 m pc ls st0) := by
  subst hz
  have cb : va_CN R s args own index y host bytes maxL none (Cond.code y bytes maxL none :: gW) rm mc ms As.length := va_cnB As.length F.2.2.2.2 (gW_good hb.1) rfl hRm.2.2.1 hRm.2.2.2 h1 (F.2.2.2.2 _ hb.2.1) hb.2.2 ⟨hRm.1, hRm.2.1⟩
  have hC1 : [i0].map (fun i => ws[i]?) = [e0].map some := by simp [hC]
  have hFc := va_free (wc := [e0]) hD hS hA [i0] hC1
  refine va_callv (va_runIN (As := As) (rest := rest) F hM ⟨cb, hy, F.2.2.2.2 _ hi⟩ ⟨g_blindC, fun U hU hW => ⟨rfl, by rw [hU], by rw [hU]; exact g_P1 hP hC, va_K.moved hW.alike hK⟩⟩ rfl rfl hls hst (lv_room hW) hdg hcs) hS (fun q _ h => hFc q h) hFc (fun u t H1 locs1 ht hvm hw hB hz1 hk1 hS1 => ?_)
  obtain ⟨hP1, hD1, hz2⟩ := hB
  rw [ht] at hP1 hz2
  obtain ⟨a1, a2⟩ := va_join hP hD [i0] isR hC1 hR hn hdis hk1 hFc hP1 hD1
  exact kk H1 locs1 a1 a2 hS1 hz2
end GC
