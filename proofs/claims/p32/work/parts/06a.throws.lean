theorem kn_IO : Cond.initialized "java/lang/IndexOutOfBoundsException" ∈ gW := gW_t (List.mem_append_left _ (show _ ∈ tables_1_1 from List.mem_of_getElem? (i := 15) (by decide +kernel))) (by decide +kernel)
theorem kn_IA : Cond.initialized "java/lang/IllegalArgumentException" ∈ gW := gW_t (List.mem_append_left _ (show _ ∈ tables_1_1 from List.mem_of_getElem? (i := 16) (by decide +kernel))) (by decide +kernel)
theorem kn_IS : Cond.initialized "java/lang/IllegalStateException" ∈ gW := gW_t (List.mem_append_left _ (show _ ∈ tables_1_1 from List.mem_of_getElem? (i := 17) (by decide +kernel))) (by decide +kernel)
/-! exceptions: what a method that throws needs beside its world, and how it ends -/
def exN (k : Nat) : String := if k = 1 then "java/lang/IndexOutOfBoundsException" else if k = 2 then "java/lang/IllegalArgumentException" else "java/lang/IllegalStateException"
def gDecl : List Cond := [.declares ⟨"java/lang/RuntimeException", "<init>", "(Ljava/lang/String;)V"⟩, .declares ⟨"java/lang/Exception", "<init>", "(Ljava/lang/String;)V"⟩, .declares ⟨"java/lang/Throwable", "<init>", "(Ljava/lang/String;)V"⟩]
def gXV (sa : Nat → Nat) (U : State) : Prop := vk_R RX9 258 "there is no such cell" (sa 0) U ∧ vk_R RX9 269 "there is no such number" (sa 1) U ∧ vk_R RX9 273 "a value is out of range" (sa 2) U ∧ vk_R RX9 278 "what was told before rules this call out" (sa 3) U ∧ va_Nw (.castable "java/lang/IndexOutOfBoundsException" "java/lang/IndexOutOfBoundsException") U ∧ va_Nw (.castable "java/lang/IllegalArgumentException" "java/lang/IllegalArgumentException") U ∧ va_Nw (.castable "java/lang/IllegalStateException" "java/lang/IllegalStateException") U ∧ va_Nw (.declares ⟨"java/lang/RuntimeException", "<init>", "(Ljava/lang/String;)V"⟩) U ∧ va_Nw (.declares ⟨"java/lang/Exception", "<init>", "(Ljava/lang/String;)V"⟩) U ∧ va_Nw (.declares ⟨"java/lang/Throwable", "<init>", "(Ljava/lang/String;)V"⟩) U
def gXA (A : Nat → Prop) (U : State) (H : Heap) : Prop := vx_Zq Bundle.tN "UNASSIGNED_STACK" Bundle.steD A U H ∧ vx_Zq Bundle.tN "SUPPRESSED_SENTINEL" Bundle.listD A U H
theorem gXV.warm {sa : Nat → Nat} {s U : State} (hW : s.WarmedH U.vm) (h : gXV sa s) : gXV sa U := ⟨vk_R.warm hW h.1, vk_R.warm hW h.2.1, vk_R.warm hW h.2.2.1, vk_R.warm hW h.2.2.2.1, va_Nw.warmC hW h.2.2.2.2.1, va_Nw.warmC hW h.2.2.2.2.2.1, va_Nw.warmC hW h.2.2.2.2.2.2.1, va_Nw.warmD hW h.2.2.2.2.2.2.2.1, va_Nw.warmD hW h.2.2.2.2.2.2.2.2.1, va_Nw.warmD hW h.2.2.2.2.2.2.2.2.2⟩
theorem gXV.same {sa : Nat → Nat} {u U : State} (hv : U.vm = u.vm) (h : gXV sa u) : gXV sa U := ⟨vk_R.same hv h.1, vk_R.same hv h.2.1, vk_R.same hv h.2.2.1, vk_R.same hv h.2.2.2.1, va_Nw.same rfl hv.symm h.2.2.2.2.1, va_Nw.same rfl hv.symm h.2.2.2.2.2.1, va_Nw.same rfl hv.symm h.2.2.2.2.2.2.1, va_Nw.same rfl hv.symm h.2.2.2.2.2.2.2.1, va_Nw.same rfl hv.symm h.2.2.2.2.2.2.2.2.1, va_Nw.same rfl hv.symm h.2.2.2.2.2.2.2.2.2⟩
theorem gXA.moved {A : Nat → Prop} {u U : State} {H : Heap} (hvm : u.vm.Alike U.vm) (h : gXA A u H) : gXA A U H := ⟨vx_Zq.moved hvm h.1, vx_Zq.moved hvm h.2⟩
theorem gXA.kept {A : Nat → Prop} {U : State} {H H1 : Heap} (h : gXA A U H) (hq : ∀ a : Nat, a < H.size → ¬ A a → H1[a]? = H[a]?) : gXA A U H1 := ⟨vx_Zq.kept h.1 hq, vx_Zq.kept h.2 hq⟩
theorem gXA.narrow {A B : Nat → Prop} {U : State} {H : Heap} (h : gXA A U H) (hAB : ∀ q, B q → A q) : gXA B U H := ⟨vx_Zq.narrow h.1 hAB, vx_Zq.narrow h.2 hAB⟩
/-- what is fixed in a walk of a method that may throw -/
def g_FX (l : Launch) (meth : Method) (sa : Nat → Nat) (A : Nat → Prop) (c : Code) (s : State) : Prop := gXV sa s ∧ gXA A s s.heap ∧ (∀ x ∈ c.exceptionTable.toList, False) ∧ meth.locks = false ∧ l.stackTraces = false
def g_PcX (n : Nat) (D : va_G) (a : Nat → Nat) (E : Nat → va_E) (tys : List (ClassId × FieldType)) (sa : Nat → Nat) (av : List Value) : Array Value → State → Prop := va_Pc av (fun U => va_P D vwCl (g_wl n a E) U.heap ∧ va_K D vwCl tys U ∧ gXV sa U ∧ gXA (g_Own n a) U U.heap)
def g_QXi (n : Nat) (D : va_G) (a : Nat → Nat) (E' : Nat → va_E) (k : Nat) (r : Int32) : Array Value → State → Outcome → State → Prop := va_Qi (fun (r1 : Int32) (_ : Unit) => k = 0 ∧ r1 = r) (fun (_ : Unit) t => va_P D vwCl (g_wl n a E') t.heap) (g_Own n a)
def g_QXv (n : Nat) (D : va_G) (a : Nat → Nat) (E' : Nat → va_E) (k : Nat) : Array Value → State → Outcome → State → Prop := va_Qv (fun (_ : Unit) => k = 0) (fun (_ : Unit) t => va_P D vwCl (g_wl n a E') t.heap) (g_Own n a)
def g_XC (n : Nat) (D : va_G) (a : Nat → Nat) (E' : Nat → va_E) (k : Nat) : String → State → State → Prop := vx_X (fun (_ : Unit) => k ≠ 0) (fun Ex (_ : Unit) t => Ex = exN k ∧ va_P D vwCl (g_wl n a E') t.heap) (g_Own n a)
theorem g_blindX {n : Nat} {D : va_G} {a : Nat → Nat} {E : Nat → va_E} {tys : List (ClassId × FieldType)} {sa : Nat → Nat} {av : List Value} : FrameBlind (g_PcX n D a E tys sa av) := fun aa U g mk q => ⟨q.1, q.2.1, va_K.moved (u := U) (U := U.calling g mk aa) (Vm.Alike.refl U.vm) q.2.2.1, gXV.same (u := U) (U := U.calling g mk aa) rfl q.2.2.2.1, gXA.moved (u := U) (U := U.calling g mk aa) (Vm.Alike.refl U.vm) q.2.2.2.2⟩
section GX
variable {p : Program} {l : Launch} {e : Env} {R : Room} {s : State} {m : MethodId} {args : Array Value} {below : List Frame} {meth : Method} {c : Code} {H : Heap} {locs : List Loc} {cells slots : Nat} {Q : State → Prop} {cc : ByteArray} {nL : Nat} {own : String} {D : va_G} {tys : List (ClassId × FieldType)} {n : Nat} {a : Nat → Nat} {E E' : Nat → va_E} {pc : Nat} {ls : Array Slot} {rest : List Value}
variable {y : MethodName} {bytes : ByteArray} {maxL index ci : Nat} {rm : Room} {As : List Value} {r : Int32} {k0 : Nat} {fs : List Value} {C : String} {T : u_T} {N : Nat} {st0 : List Value} {ret : Option FieldType} {sa : Nat → Nat} {k mc ms : Nat}
/-- a call of a void method on an object of the world, that returns or throws -/
theorem g_callXVv (F : g_F p m c cc nL s args own D tys n a) (X : g_FX l meth sa (g_Own n a) c s) (hI : g_S n D a E s.heap H locs) (hM : vx_Met l y (Cond.code y bytes maxL ret :: gW) rm (g_PcX n D a E tys sa (.ref (a k0) :: As)) (g_QXv n D a E' k) (g_XC n D a E' k) mc ms (g_Own n a)) (hb : g_CB y bytes maxL ret As.length) (hi : Cond.instanceMethod y ∈ gW) (hs : Cond.selects C y y ∈ gW) (h1 : Cond.methodLink own index y ∈ gW) (hR : rm.frames + 1 ≤ R.frames ∧ 8 + (maxL + 11) + rm.locals ≤ R.locals ∧ rm.cells = mc ∧ rm.slots = ms)
    (hk0 : k0 < n) (he : E k0 = .inr (ci, fs)) (hc : vwCl[ci]? = some (C, T, N)) (hls : ls.size = nL) (hst : st0 = As.reverse ++ .ref (a k0) :: rest) (hW : (rest.map fun v => v.category).sum ≤ 8) (hcs : cells + mc ≤ R.cells ∧ slots + ms ≤ R.slots) (hdg : decode cc pc = .ok (.invokevirtual index, 3))
    (kx : ∀ (H1 : Heap) (locs1 : List Loc) (ce : Cell) (q9 : Addr), k ≠ 0 → g_S n D a E' s.heap H1 locs1 → H1[q9]? = some ce → ce.vm = .none → s.vm.findClass (exN k) = some ce.cls → vx_W p l e R s m args below meth c H1 locs1 (cells + mc) (slots + ms) Q (F0 m pc ls rest) q9)
    (kk : ∀ (H1 : Heap) (locs1 : List Loc), k = 0 → g_S n D a E' s.heap H1 locs1 → W p l e R s m args below meth c H1 locs1 (cells + mc) (slots + ms) Q (F0 m (pc + 3) ls rest)) : W p l e R s m args below meth c H locs cells slots Q (F0 m pc ls st0) := by
  have cb := g_cb (R := R) (s := s) (args := args) (rm := rm) F.1.2.2.2.2 hb h1 ⟨hR.1, hR.2.1⟩
  rw [hR.2.2.1, hR.2.2.2] at cb
  refine vx_callv (vx_runV (As := As) (rest := rest) F.1 hM ⟨cb, F.1.2.2.2.2 _ hi, F.1.2.2.2.2 _ hs⟩ ⟨g_blindX, va_recv F.2.1 hI.1 hc (by rw [g_wl_at hk0, he]), fun U hU hW => ⟨rfl, by rw [hU]; exact hI.1, va_K.moved hW.alike F.2.1, gXV.warm hW X.1, by rw [hU]; exact gXA.moved hW.alike (gXA.kept X.2.1 hI.2.2.1)⟩⟩ rfl rfl hls hst (lv_room hW) hdg hcs) hI.2 (fun q _ h => h) (fun q h => h) (fun q _ h => h) (fun Ex ce q9 u t H1 locs1 ht hvm hw hB hz hk hS h1 h2 h3 => ?_) (fun u t H1 locs1 ht hvm hw hB hz hk hS => ?_)
  · obtain ⟨rfl, hB⟩ := hB
    rw [ht] at hB
    exact kx H1 locs1 ce q9 hw ⟨hB, hS⟩ h1 h2 h3
  · rw [ht] at hB
    exact kk H1 locs1 hw ⟨hB, hS⟩
theorem g_callXSv (F : g_F p m c cc nL s args own D tys n a) (X : g_FX l meth sa (g_Own n a) c s) (hI : g_S n D a E s.heap H locs) (hM : vx_Met l y (Cond.code y bytes maxL ret :: gW) rm (g_PcX n D a E tys sa As) (g_QXv n D a E' k) (g_XC n D a E' k) mc ms (g_Own n a)) (hb : g_CB y bytes maxL ret As.length) (hi : Cond.static y ∈ gW) (h1 : Cond.methodLink own index y ∈ gW) (hR : rm.frames + 1 ≤ R.frames ∧ 8 + (maxL + 11) + rm.locals ≤ R.locals ∧ rm.cells = mc ∧ rm.slots = ms)
    (hls : ls.size = nL) (hst : st0 = As.reverse ++ rest) (hW : (rest.map fun v => v.category).sum ≤ 8) (hcs : cells + mc ≤ R.cells ∧ slots + ms ≤ R.slots) (hdg : decode cc pc = .ok (.invokestatic index, 3))
    (kx : ∀ (H1 : Heap) (locs1 : List Loc) (ce : Cell) (q9 : Addr), k ≠ 0 → g_S n D a E' s.heap H1 locs1 → H1[q9]? = some ce → ce.vm = .none → s.vm.findClass (exN k) = some ce.cls → vx_W p l e R s m args below meth c H1 locs1 (cells + mc) (slots + ms) Q (F0 m pc ls rest) q9)
    (kk : ∀ (H1 : Heap) (locs1 : List Loc), k = 0 → g_S n D a E' s.heap H1 locs1 → W p l e R s m args below meth c H1 locs1 (cells + mc) (slots + ms) Q (F0 m (pc + 3) ls rest)) : W p l e R s m args below meth c H locs cells slots Q (F0 m pc ls st0) := by
  have cb := g_cb (R := R) (s := s) (args := args) (rm := rm) F.1.2.2.2.2 hb h1 ⟨hR.1, hR.2.1⟩
  rw [hR.2.2.1, hR.2.2.2] at cb
  refine vx_callv (vx_runS (As := As) (rest := rest) F.1 hM ⟨cb, F.1.2.2.2.2 _ hi⟩ ⟨g_blindX, fun U hU hW => ⟨rfl, by rw [hU]; exact hI.1, va_K.moved hW.alike F.2.1, gXV.warm hW X.1, by rw [hU]; exact gXA.moved hW.alike (gXA.kept X.2.1 hI.2.2.1)⟩⟩ rfl rfl hls hst (lv_room hW) hdg hcs) hI.2 (fun q _ h => h) (fun q h => h) (fun q _ h => h) (fun Ex ce q9 u t H1 locs1 ht hvm hw hB hz hk hS h1 h2 h3 => ?_) (fun u t H1 locs1 ht hvm hw hB hz hk hS => ?_)
  · obtain ⟨rfl, hB⟩ := hB
    rw [ht] at hB
    exact kx H1 locs1 ce q9 hw ⟨hB, hS⟩ h1 h2 h3
  · rw [ht] at hB
    exact kk H1 locs1 hw ⟨hB, hS⟩
end GX
/-- a method that answers an int or throws, by its body -/
theorem g_mxi {l : Launch} {y : MethodName} {cc : ByteArray} {maxL : Nat} {ret : Option FieldType} {rm : Room} {n : Nat} {D : va_G} {a : Nat → Nat} {E E' : Nat → va_E} {tys : List (ClassId × FieldType)} {av : List Value} {sa : Nat → Nat} {k mc ms : Nat} {r : Int32} (hy : plainName y.cls = true) (hj : g_Inj n a) (hlt : l.stackTraces = false) (hret : ret = some .int) (hn : (lg_sl av).length ≤ maxL)
    (body : ∀ (p : Program) (e : Env) (s : State) (m : MethodId) (args : Array Value) (below : List Frame) (meth : Method) (c : Code) (Q : State → Prop) (ls : Array Slot), g_F p m c cc maxL s args y.cls D tys n a → g_FX l meth sa (g_Own n a) c s → lv_has ls maxL (lv_args 0 av) → g_S n D a E s.heap s.heap [] →
      (∀ (H1 : Heap) (locs1 : List Loc) (pc1 : Nat) (ls1 : Array Slot) (cl sl : Nat), k = 0 → cl ≤ mc → sl ≤ ms → g_S n D a E' s.heap H1 locs1 → decode cc pc1 = .ok (.ireturn, 1) → W p l e rm s m args below meth c H1 locs1 cl sl Q (F0 m pc1 ls1 [.int r])) →
      (∀ (H1 : Heap) (locs1 : List Loc) (pc1 : Nat) (ls1 : Array Slot) (rest : List Value) (ce : Cell) (q9 : Addr) (cl sl : Nat), k ≠ 0 → cl ≤ mc → sl ≤ ms → g_S n D a E' s.heap H1 locs1 → H1[q9]? = some ce → ce.vm = .none → s.vm.findClass (exN k) = some ce.cls → vx_W p l e rm s m args below meth c H1 locs1 cl sl Q (F0 m pc1 ls1 rest) q9) →
      W p l e rm s m args below meth c s.heap [] 0 0 Q (F0 m 0 ls [])) :
    vx_Met l y (Cond.code y cc maxL ret :: gW) rm (g_PcX n D a E tys sa av) (g_QXi n D a E' k r) (g_XC n D a E' k) mc ms (g_Own n a) := by
  subst hret
  refine vx_ofW (cc := cc) (maxL := maxL) (ret := some .int) hy rfl ?_
  intro p e s m args below meth c s₁ B hml htab hv
  obtain ⟨rfl, hP, hK, hXV, hXA⟩ := hv
  have hts := atoms_spec (ws := Cond.code y cc maxL (some .int) :: gW) B.pre
  have hl := lv_entry av (n := maxL) hn
  rw [lg_entry_eq]
  generalize (lg_sl av ++ List.replicate (maxL - (lg_sl av).length) Slot.unset).toArray = ls at hl ⊢
  refine body p e s m _ below meth c _ ls ⟨⟨B.exec, B.bytes, hml, findClass_of_methodNamed B.named, fun w h => hts w (List.mem_cons_of_mem _ h)⟩, hK, hj⟩ ⟨hXV, hXA, htab, B.notSynchronized, hlt⟩ hl ⟨hP, va_S.rf⟩ (fun H1 locs1 pc1 ls1 cl sl hk hc hs hS hd => ?_) (fun H1 locs1 pc1 ls1 rest ce q9 cl sl hk hc hs hS h1 h2 h3 => ?_)
  · exact W.widen hc hs (vx_ret (W.iret (v := r) B.exec B.bytes B.returns (fun t ht hW => ⟨⟨r, (), rfl, ⟨hk, rfl⟩, by show va_P D vwCl (g_wl n a E') t.heap; rw [ht]; exact hS.1⟩, hS.2.F ht⟩) hS.2.2.2 hd B.notSynchronized))
  · exact vx_out (fun x hx => absurd (htab x hx) (fun h => h)) B.notSynchronized h1 h2 h3 (fun t ht hvm => ⟨(), hk, ⟨rfl, by rw [ht]; exact hS.1⟩, hS.2.F ht⟩) hS.2.2.2 hc hs
theorem g_mxz {l : Launch} {y : MethodName} {cc : ByteArray} {maxL : Nat} {ret : Option FieldType} {rm : Room} {n : Nat} {D : va_G} {a : Nat → Nat} {E E' : Nat → va_E} {tys : List (ClassId × FieldType)} {av : List Value} {sa : Nat → Nat} {k mc ms : Nat} {r : Int32} (hy : plainName y.cls = true) (hj : g_Inj n a) (hlt : l.stackTraces = false) (hret : ret = some .boolean) (hn : (lg_sl av).length ≤ maxL)
    (body : ∀ (p : Program) (e : Env) (s : State) (m : MethodId) (args : Array Value) (below : List Frame) (meth : Method) (c : Code) (Q : State → Prop) (ls : Array Slot), g_F p m c cc maxL s args y.cls D tys n a → g_FX l meth sa (g_Own n a) c s → lv_has ls maxL (lv_args 0 av) → g_S n D a E s.heap s.heap [] →
      (∀ (H1 : Heap) (locs1 : List Loc) (pc1 : Nat) (ls1 : Array Slot) (cl sl : Nat) (v : Int32), v &&& 1 = r → k = 0 → cl ≤ mc → sl ≤ ms → g_S n D a E' s.heap H1 locs1 → decode cc pc1 = .ok (.ireturn, 1) → W p l e rm s m args below meth c H1 locs1 cl sl Q (F0 m pc1 ls1 [.int v])) →
      (∀ (H1 : Heap) (locs1 : List Loc) (pc1 : Nat) (ls1 : Array Slot) (rest : List Value) (ce : Cell) (q9 : Addr) (cl sl : Nat), k ≠ 0 → cl ≤ mc → sl ≤ ms → g_S n D a E' s.heap H1 locs1 → H1[q9]? = some ce → ce.vm = .none → s.vm.findClass (exN k) = some ce.cls → vx_W p l e rm s m args below meth c H1 locs1 cl sl Q (F0 m pc1 ls1 rest) q9) →
      W p l e rm s m args below meth c s.heap [] 0 0 Q (F0 m 0 ls [])) :
    vx_Met l y (Cond.code y cc maxL ret :: gW) rm (g_PcX n D a E tys sa av) (g_QXi n D a E' k r) (g_XC n D a E' k) mc ms (g_Own n a) := by
  subst hret
  refine vx_ofW (cc := cc) (maxL := maxL) (ret := some .boolean) hy rfl ?_
  intro p e s m args below meth c s₁ B hml htab hv
  obtain ⟨rfl, hP, hK, hXV, hXA⟩ := hv
  have hts := atoms_spec (ws := Cond.code y cc maxL (some .boolean) :: gW) B.pre
  have hl := lv_entry av (n := maxL) hn
  rw [lg_entry_eq]
  generalize (lg_sl av ++ List.replicate (maxL - (lg_sl av).length) Slot.unset).toArray = ls at hl ⊢
  refine body p e s m _ below meth c _ ls ⟨⟨B.exec, B.bytes, hml, findClass_of_methodNamed B.named, fun w h => hts w (List.mem_cons_of_mem _ h)⟩, hK, hj⟩ ⟨hXV, hXA, htab, B.notSynchronized, hlt⟩ hl ⟨hP, va_S.rf⟩ (fun H1 locs1 pc1 ls1 cl sl v hv hk hc hs hS hd => ?_) (fun H1 locs1 pc1 ls1 rest ce q9 cl sl hk hc hs hS h1 h2 h3 => ?_)
  · exact W.widen hc hs (vx_ret (g_zret (v := v) B.exec B.bytes B.returns (fun t ht hW => ⟨⟨r, (), by rw [hv], ⟨hk, rfl⟩, by show va_P D vwCl (g_wl n a E') t.heap; rw [ht]; exact hS.1⟩, hS.2.F ht⟩) hS.2.2.2 hd B.notSynchronized))
  · exact vx_out (fun x hx => absurd (htab x hx) (fun h => h)) B.notSynchronized h1 h2 h3 (fun t ht hvm => ⟨(), hk, ⟨rfl, by rw [ht]; exact hS.1⟩, hS.2.F ht⟩) hS.2.2.2 hc hs
theorem g_mxv {l : Launch} {y : MethodName} {cc : ByteArray} {maxL : Nat} {ret : Option FieldType} {rm : Room} {n : Nat} {D : va_G} {a : Nat → Nat} {E E' : Nat → va_E} {tys : List (ClassId × FieldType)} {av : List Value} {sa : Nat → Nat} {k mc ms : Nat} (hy : plainName y.cls = true) (hj : g_Inj n a) (hlt : l.stackTraces = false) (hret : ret = none) (hn : (lg_sl av).length ≤ maxL)
    (body : ∀ (p : Program) (e : Env) (s : State) (m : MethodId) (args : Array Value) (below : List Frame) (meth : Method) (c : Code) (Q : State → Prop) (ls : Array Slot), g_F p m c cc maxL s args y.cls D tys n a → g_FX l meth sa (g_Own n a) c s → lv_has ls maxL (lv_args 0 av) → g_S n D a E s.heap s.heap [] →
      (∀ (H1 : Heap) (locs1 : List Loc) (pc1 : Nat) (ls1 : Array Slot) (cl sl : Nat), k = 0 → cl ≤ mc → sl ≤ ms → g_S n D a E' s.heap H1 locs1 → decode cc pc1 = .ok (.return_, 1) → W p l e rm s m args below meth c H1 locs1 cl sl Q (F0 m pc1 ls1 [])) →
      (∀ (H1 : Heap) (locs1 : List Loc) (pc1 : Nat) (ls1 : Array Slot) (rest : List Value) (ce : Cell) (q9 : Addr) (cl sl : Nat), k ≠ 0 → cl ≤ mc → sl ≤ ms → g_S n D a E' s.heap H1 locs1 → H1[q9]? = some ce → ce.vm = .none → s.vm.findClass (exN k) = some ce.cls → vx_W p l e rm s m args below meth c H1 locs1 cl sl Q (F0 m pc1 ls1 rest) q9) →
      (∀ (H1 : Heap) (locs1 : List Loc) (pc1 : Nat) (ls1 : Array Slot) (ik is ic i0 : Nat) (text : String), k ≠ 0 → g_S n D a E' s.heap H1 locs1 → ls1.size = maxL → vk_R y.cls is text (sa i0) s → Cond.classLink y.cls ik (exN k) ∈ gW → Cond.initialized (exN k) ∈ gW → Bundle.fit (exN k) = true → va_Nw (.castable (exN k) (exN k)) s →
        (∀ w ∈ (vx_atS y.cls ic (exN k) ["java/lang/RuntimeException", "java/lang/Exception"]).filter goodWord, w ∈ gW) → (∀ w ∈ (vx_atS y.cls ic (exN k) ["java/lang/RuntimeException", "java/lang/Exception"]).filter (fun w => !goodWord w), w ∈ Cond.castable (exN k) (exN k) :: gDecl) → (∀ w ∈ Cond.classLink y.cls ik (exN k) :: Cond.initialized (exN k) :: vx_atS y.cls ic (exN k) ["java/lang/RuntimeException", "java/lang/Exception"], vx_ot w = true) →
        decode cc pc1 = .ok (.new ik, 3) → decode cc (pc1 + 3) = .ok (.dup, 1) → decode cc (pc1 + 4) = .ok (.ldc_w is, 3) → decode cc (pc1 + 7) = .ok (.invokespecial ic, 3) → decode cc (pc1 + 10) = .ok (.athrow, 1) → 6 ≤ rm.frames → 82 ≤ rm.locals → 1 ≤ rm.cells → 6 ≤ rm.slots → 1 ≤ mc → 6 ≤ ms → W p l e rm s m args below meth c H1 locs1 0 0 Q (F0 m pc1 ls1 [])) →
      W p l e rm s m args below meth c s.heap [] 0 0 Q (F0 m 0 ls [])) :
    vx_Met l y (Cond.code y cc maxL ret :: gW) rm (g_PcX n D a E tys sa av) (g_QXv n D a E' k) (g_XC n D a E' k) mc ms (g_Own n a) := by
  subst hret
  refine vx_ofW (cc := cc) (maxL := maxL) (ret := none) hy rfl ?_
  intro p e s m args below meth c s₁ B hml htab hv
  obtain ⟨rfl, hP, hK, hXV, hXA⟩ := hv
  have hts := atoms_spec (ws := Cond.code y cc maxL none :: gW) B.pre
  have hG : ∀ w ∈ gW, w.before av.toArray s = true := fun w h => hts w (List.mem_cons_of_mem _ h)
  have hl := lv_entry av (n := maxL) hn
  rw [lg_entry_eq]
  generalize (lg_sl av ++ List.replicate (maxL - (lg_sl av).length) Slot.unset).toArray = ls at hl ⊢
  have hown : s.vm.findClass y.cls = some m.cls := findClass_of_methodNamed B.named
  refine body p e s m _ below meth c _ ls ⟨⟨B.exec, B.bytes, hml, hown, hG⟩, hK, hj⟩ ⟨hXV, hXA, htab, B.notSynchronized, hlt⟩ hl ⟨hP, va_S.rf⟩ (fun H1 locs1 pc1 ls1 cl sl hk hc hs hS hd => ?_) (fun H1 locs1 pc1 ls1 rest ce q9 cl sl hk hc hs hS h1 h2 h3 => ?_) (fun H1 locs1 pc1 ls1 ik is ic i0 text hk hS hsz hstr hcl hini hfit hcast hgd hbd hot d0 d3 d4 d7 d10 hf hlo hce hsl hmc hms => ?_)
  · exact W.widen hc hs (vx_ret (W.vret B.exec B.bytes B.returns (fun t ht hW => ⟨⟨(), rfl, hk, by show va_P D vwCl (g_wl n a E') t.heap; rw [ht]; exact hS.1⟩, hS.2.F ht⟩) hS.2.2.2 hd B.notSynchronized))
  · exact vx_out (fun x hx => absurd (htab x hx) (fun h => h)) B.notSynchronized h1 h2 h3 (fun t ht hvm => ⟨(), hk, ⟨rfl, by rw [ht]; exact hS.1⟩, hS.2.F ht⟩) hS.2.2.2 hc hs
  · refine vx_throwSW B.exec B.bytes hlt hown hfit (by decide +kernel) (hG _ hcl) (hG _ hini) hstr (vx_hat (fun w h => hG w (hgd w h)) hbd (vx_c (va_Nw.use rfl hcast) (vx_c (va_Nw.use rfl hXV.2.2.2.2.2.2.2.1) (vx_c (va_Nw.use rfl hXV.2.2.2.2.2.2.2.2.1) (vx_c (va_Nw.use rfl hXV.2.2.2.2.2.2.2.2.2) vx_n))))) hot hXA.1 hXA.2 hS.2 (hsz.trans hml.symm) d0 d3 d4 d7 d10 (fun x hx => absurd (htab x hx) (fun h => h)) hf (by exact hlo) (by rw [Nat.zero_add]; exact hce) (by rw [Nat.zero_add]; exact hsl) B.notSynchronized (fun t hvm hsz2 hkeep => ?_) hS.2.2.2 (by rw [Nat.zero_add]; exact hmc) (by rw [Nat.zero_add]; exact hms)
    refine ⟨(), hk, ⟨rfl, hS.1.kept (fun j q hq => hkeep q.1 (hS.1 j q hq).lt)⟩, ⟨Nat.le_trans hS.2.1 hsz2, fun q h1 h2 => ?_⟩⟩
    rw [hkeep q (Nat.lt_of_lt_of_le h1 hS.2.1)]
    exact hS.2.2.1 q h1 h2
