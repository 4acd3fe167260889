/-! the law's worlds: two clubs (cells 0..64, 65..129), the int[] (cell 130) -/
abbrev lSt : Type := gSt × gSt × (Nat → Int32)
def bA (a : Nat → Nat) : Nat → Nat := fun j => a (65 + j)
def lE (a : Nat → Nat) (cI : ClassId) (S : lSt) (k : Nat) : va_E := if k < 65 then gE a cI S.1 k else if k < 130 then gE (bA a) cI S.2.1 (k - 65) else .inl (cI, 1, .inl S.2.2)
theorem lE_lo {a : Nat → Nat} {cI : ClassId} {S : lSt} {k : Nat} (h : k < 65) : lE a cI S k = gE a cI S.1 k := if_pos h
theorem lE_hi {a : Nat → Nat} {cI : ClassId} {S : lSt} {k : Nat} (h : k < 65) : lE a cI S (65 + k) = gE (bA a) cI S.2.1 k := by
  unfold lE
  rw [if_neg (by omega), if_pos (by omega), show 65 + k - 65 = k by omega]
theorem lE_c {a : Nat → Nat} {cI : ClassId} {S : lSt} : lE a cI S 130 = .inl (cI, 1, .inl S.2.2) := by
  unfold lE
  rw [if_neg (by decide), if_neg (by decide)]
theorem lE_up {a : Nat → Nat} {cI : ClassId} {S : lSt} {f : Nat → Int32} (j : Nat) (hj : j < 131) (hne : j ≠ 130) : lE a cI (S.1, S.2.1, f) j = lE a cI S j := by
  unfold lE
  by_cases h1 : j < 65
  · rw [if_pos h1, if_pos h1]
  · rw [if_neg h1, if_neg h1]
    rw [if_pos (show j < 130 by omega), if_pos (show j < 130 by omega)]
/-- a smaller world in a larger one -/
theorem g_sub {n1 n : Nat} {D : va_G} {a1 a : Nat → Nat} {E1 E : Nat → va_E} {H : Heap} (ι : Nat → Nat) (hι : ∀ k, k < n1 → ι k < n ∧ a1 k = a (ι k)) (hE : ∀ k, k < n1 → E (ι k) = E1 k) (hP : va_P D vwCl (g_wl n a E) H) : va_P D vwCl (g_wl n1 a1 E1) H := by
  intro k q hq
  obtain ⟨hk, rfl⟩ := g_wl_inv hq
  have h := hP (ι k) _ (g_wl_at (hι k hk).1)
  rw [hE k hk, ← (hι k hk).2] at h
  exact h
theorem g_embed {n1 n : Nat} {D : va_G} {a1 a : Nat → Nat} {E1' E E' : Nat → va_E} {H H1 : Heap} (ι : Nat → Nat) (hj : g_Inj n a) (hι : ∀ k, k < n1 → ι k < n ∧ a1 k = a (ι k)) (hin : ∀ k, k < n1 → E' (ι k) = E1' k) (hout : ∀ j, j < n → (∀ k, k < n1 → ι k ≠ j) → E' j = E j) (hP : va_P D vwCl (g_wl n a E) H) (hk : ∀ q : Nat, q < H.size → ¬ g_Own n1 a1 q → H1[q]? = H[q]?) (hP1 : va_P D vwCl (g_wl n1 a1 E1') H1) : va_P D vwCl (g_wl n a E') H1 := by
  intro j q hq
  obtain ⟨hj1, rfl⟩ := g_wl_inv hq
  by_cases h : ∃ k, k < n1 ∧ ι k = j
  · obtain ⟨k, h1, rfl⟩ := h
    have h2 := hP1 k _ (g_wl_at h1)
    rw [hin k h1, ← (hι k h1).2]
    exact h2
  · have h1 : ∀ k, k < n1 → ι k ≠ j := fun k hk he => h ⟨k, hk, he⟩
    have h2 := hP j _ (g_wl_at hj1)
    rw [hout j hj1 h1]
    refine h2.kept (hk _ h2.lt ?_)
    rintro ⟨k, h3, h4⟩
    have h5 : a j = a (ι k) := by rw [← (hι k h3).2]; exact h4
    exact h1 k h3 (hj j (ι k) hj1 (hι k h3).1 h5).symm
theorem g_own_sub {n1 n : Nat} {a1 a : Nat → Nat} (ι : Nat → Nat) (hι : ∀ k, k < n1 → ι k < n ∧ a1 k = a (ι k)) (q : Nat) (h : g_Own n1 a1 q) : g_Own n a q := by
  obtain ⟨k, h1, h2⟩ := h
  exact ⟨ι k, (hι k h1).1, h2.trans (hι k h1).2⟩
theorem g_inj_sub {n1 n : Nat} {a : Nat → Nat} (h : n1 ≤ n) (hj : g_Inj n a) : g_Inj n1 a := fun i j hi hk he => hj i j (Nat.lt_of_lt_of_le hi h) (Nat.lt_of_lt_of_le hk h) he
def gNC (U : State) : Prop := va_Nc "java/lang/IllegalArgumentException" "java/lang/IndexOutOfBoundsException" U ∧ va_Nc "java/lang/IllegalStateException" "java/lang/IndexOutOfBoundsException" U ∧ va_Nc "java/lang/IllegalStateException" "java/lang/IllegalArgumentException" U ∧ va_Nc "java/lang/IllegalArgumentException" "java/lang/IllegalStateException" U
theorem gNC.moved {u U : State} (hvm : u.vm.Alike U.vm) (h : gNC u) : gNC U := ⟨va_Nc.moved hvm h.1, va_Nc.moved hvm h.2.1, va_Nc.moved hvm h.2.2.1, va_Nc.moved hvm h.2.2.2⟩
def g_XL (sa : Nat → Nat) (a : Nat → Nat) (s : State) : Prop := gXV sa s ∧ gXA (g_Own 65 a) s s.heap ∧ gNC s
def g_PcL (D : va_G) (a : Nat → Nat) (E : Nat → va_E) (tys : List (ClassId × FieldType)) (sa : Nat → Nat) (av : List Value) : Array Value → State → Prop := va_Pc av (fun U => va_P D vwCl (g_wl 65 a E) U.heap ∧ va_K D vwCl tys U ∧ g_XL sa a U)
theorem g_blindL {D : va_G} {a : Nat → Nat} {E : Nat → va_E} {tys : List (ClassId × FieldType)} {sa : Nat → Nat} {av : List Value} : FrameBlind (g_PcL D a E tys sa av) := fun aa U g mk q => ⟨q.1, q.2.1, va_K.moved (u := U) (U := U.calling g mk aa) (Vm.Alike.refl U.vm) q.2.2.1, gXV.same (u := U) (U := U.calling g mk aa) rfl q.2.2.2.1, gXA.moved (u := U) (U := U.calling g mk aa) (Vm.Alike.refl U.vm) q.2.2.2.2.1, gNC.moved (u := U) (U := U.calling g mk aa) (Vm.Alike.refl U.vm) q.2.2.2.2.2⟩
/-- a wrapper of the law, by its body -/
theorem g_metL {l : Launch} {y : MethodName} {cc : ByteArray} {maxL : Nat} {hh : List (Nat × Nat × Nat × Nat)} {rm : Room} {D : va_G} {a : Nat → Nat} {E E' : Nat → va_E} {tys : List (ClassId × FieldType)} {av : List Value} {sa : Nat → Nat} {mc ms : Nat} {r : Int32} (hy : plainName y.cls = true) (hj : g_Inj 65 a) (hn : (lg_sl av).length ≤ maxL)
    (body : ∀ (p : Program) (e : Env) (s : State) (m : MethodId) (args : Array Value) (below : List Frame) (meth : Method) (c : Code) (Q : State → Prop) (ls : Array Slot), g_F p m c cc maxL s args y.cls D tys 65 a → g_XL sa a s → c.exceptionTable.toList = tableOf hh → lv_has ls maxL (lv_args 0 av) → g_S 65 D a E s.heap s.heap [] →
      (∀ (H1 : Heap) (locs1 : List Loc) (pc1 : Nat) (ls1 : Array Slot) (cl sl : Nat), cl ≤ mc → sl ≤ ms → g_S 65 D a E' s.heap H1 locs1 → decode cc pc1 = .ok (.ireturn, 1) → W p l e rm s m args below meth c H1 locs1 cl sl Q (F0 m pc1 ls1 [.int r])) → W p l e rm s m args below meth c s.heap [] 0 0 Q (F0 m 0 ls [])) :
    Met l y (Cond.codeWith y cc maxL (some .int) hh :: gW) rm (g_PcL D a E tys sa av) (g_Qi 65 D a E' r) mc ms (g_Own 65 a) := by
  refine va_MetW (cc := cc) (maxL := maxL) (ret := some .int) hy rfl ?_
  intro p e s m args below meth c s₁ B hml hv
  obtain ⟨rfl, hP, hK, hX⟩ := hv
  have hts := atoms_spec (ws := Cond.codeWith y cc maxL (some .int) hh :: gW) B.pre
  have hl := lv_entry av (n := maxL) hn
  rw [lg_entry_eq]
  generalize (lg_sl av ++ List.replicate (maxL - (lg_sl av).length) Slot.unset).toArray = ls at hl ⊢
  refine body p e s m _ below meth c _ ls ⟨⟨B.exec, B.bytes, hml, findClass_of_methodNamed B.named, fun w h => hts w (List.mem_cons_of_mem _ h)⟩, hK, hj⟩ hX (vx_table (x := y) B (hts _ List.mem_cons_self)) hl ⟨hP, va_S.rf⟩ (fun H1 locs1 pc1 ls1 cl sl hc hs hS hd => ?_)
  exact W.widen hc hs (W.iret (v := r) B.exec B.bytes B.returns (fun t ht hW => ⟨⟨r, (), rfl, rfl, by show va_P D vwCl (g_wl 65 a E') t.heap; rw [ht]; exact hS.1⟩, hS.2.F ht⟩) hS.2.2.2 hd B.notSynchronized)
section GL
variable {p : Program} {l : Launch} {e : Env} {R : Room} {s : State} {m : MethodId} {args : Array Value} {below : List Frame} {meth : Method} {c : Code} {H : Heap} {locs : List Loc} {cells slots : Nat} {Q : State → Prop} {cc : ByteArray} {nL : Nat} {own : String} {D : va_G} {tys : List (ClassId × FieldType)} {a : Nat → Nat} {pc : Nat} {ls : Array Slot} {rest : List Value} {cI : ClassId} {y : MethodName} {bytes : ByteArray} {maxL index k mc ms : Nat} {rm : Room} {As : List Value} {r : Int32} {st0 : List Value} {ret : Option FieldType} {sa : Nat → Nat} {σ σ' : gSt} {A : Nat → Prop} {S : lSt}
/-- a wrapper's call of the class -/
theorem g_callXWi (F : g_F p m c cc nL s args own D [(cI, .int)] 65 a) (X : g_XL sa a s) (hI : g_S 65 D a (gE a cI σ) s.heap H locs) (hM : vx_Met l y (Cond.code y bytes maxL ret :: gW) rm (g_PcX 65 D a (gE a cI σ) [(cI, .int)] sa (.ref (a 0) :: As)) (g_QXi 65 D a (gE a cI σ') k r) (g_XC 65 D a (gE a cI σ') k) mc ms (g_Own 65 a)) (hb : g_CB y bytes maxL ret As.length) (hi : Cond.instanceMethod y ∈ gW) (hs : Cond.selects RX9 y y ∈ gW) (h1 : Cond.methodLink own index y ∈ gW) (hR : rm.frames + 1 ≤ R.frames ∧ 8 + (maxL + 11) + rm.locals ≤ R.locals ∧ rm.cells = mc ∧ rm.slots = ms)
    (hls : ls.size = nL) (hst : st0 = As.reverse ++ .ref (a 0) :: rest) (hW : (rest.map fun v => v.category).sum ≤ 8) (hcs : cells + mc ≤ R.cells ∧ slots + ms ≤ R.slots) (hdg : decode cc pc = .ok (.invokevirtual index, 3))
    (kx : ∀ (H1 : Heap) (locs1 : List Loc) (ce : Cell) (q9 : Addr), k ≠ 0 → g_S 65 D a (gE a cI σ') s.heap H1 locs1 → H1[q9]? = some ce → ce.vm = .none → s.vm.findClass (exN k) = some ce.cls → vx_W p l e R s m args below meth c H1 locs1 (cells + mc) (slots + ms) Q (F0 m pc ls rest) q9)
    (kk : ∀ (H1 : Heap) (locs1 : List Loc), k = 0 → g_S 65 D a (gE a cI σ') s.heap H1 locs1 → W p l e R s m args below meth c H1 locs1 (cells + mc) (slots + ms) Q (F0 m (pc + 3) ls (.int r :: rest))) : W p l e R s m args below meth c H locs cells slots Q (F0 m pc ls st0) := by
  have cb := g_cb (R := R) (s := s) (args := args) (rm := rm) F.1.2.2.2.2 hb h1 ⟨hR.1, hR.2.1⟩
  rw [hR.2.2.1, hR.2.2.2] at cb
  refine vx_calli (vx_runV (C := RX9) (As := As) (rest := rest) F.1 hM ⟨cb, F.1.2.2.2.2 _ hi, F.1.2.2.2.2 _ hs⟩ ⟨g_blindX, va_recv (q0 := 0) (ci := 9) F.2.1 hI.1 (q := (RX9, TX9, 8)) rfl (by rw [g_wl_at (by decide), gE_0]), fun U hU hW => ⟨rfl, by rw [hU]; exact hI.1, va_K.moved hW.alike F.2.1, gXV.warm hW X.1, by rw [hU]; exact gXA.moved hW.alike (gXA.kept X.2.1 hI.2.2.1)⟩⟩ rfl rfl hls hst (lv_room hW) hdg hcs) hI.2 (fun q _ h => h) (fun q h => h) (fun q _ h => h) (fun Ex ce q9 u t H1 locs1 ht hvm hw hB hz hk hS h1 h2 h3 => ?_) (fun r1 u t H1 locs1 ht hvm hw hB hz hk hS => ?_)
  · obtain ⟨rfl, hB⟩ := hB
    rw [ht] at hB
    exact kx H1 locs1 ce q9 hw ⟨hB, hS⟩ h1 h2 h3
  · obtain ⟨hk0, hw⟩ := hw
    subst hw
    rw [ht] at hB
    exact kk H1 locs1 hk0 ⟨hB, hS⟩
end GL
/-! rows of the bodies that hold both clubs: A is what may be written -/
def g_LS (A : Nat → Prop) (D : va_G) (a : Nat → Nat) (E : Nat → va_E) (s : State) (H : Heap) (locs : List Loc) : Prop := va_P D vwCl (g_wl 131 a E) H ∧ va_S A s.heap H locs
def g_LF (A : Nat → Prop) (p : Program) (l : Launch) (m : MethodId) (c : Code) (cc : ByteArray) (nL : Nat) (s : State) (args : Array Value) (D : va_G) (a : Nat → Nat) (cI : ClassId) (sa : Nat → Nat) : Prop := CallFix p m c cc nL s args gW RL ∧ va_K D vwCl [(cI, .int)] s ∧ g_Inj 131 a ∧ (∀ k, k < 131 → A (a k)) ∧ gXV sa s ∧ gXA A s s.heap ∧ gNC s ∧ l.stackTraces = false
theorem g_inj_b {a : Nat → Nat} (h : g_Inj 131 a) : g_Inj 65 (bA a) := fun i j hi hj he => by
  have := h (65 + i) (65 + j) (by omega) (by omega) he
  omega
theorem g_viewA {a : Nat → Nat} : ∀ k, k < 65 → id k < 131 ∧ a k = a (id k) := fun k h => ⟨Nat.lt_of_lt_of_le h (by decide), rfl⟩
theorem g_viewB {a : Nat → Nat} : ∀ k, k < 65 → (fun j => 65 + j) k < 131 ∧ bA a k = a ((fun j => 65 + j) k) := fun k h => ⟨by show 65 + k < 131; omega, rfl⟩
section GLR
variable {p : Program} {l : Launch} {e : Env} {R : Room} {s : State} {m : MethodId} {args : Array Value} {below : List Frame} {meth : Method} {c : Code} {H : Heap} {locs : List Loc} {cells slots : Nat} {Q : State → Prop} {cc : ByteArray} {nL : Nat} {own : String} {D : va_G} {tys : List (ClassId × FieldType)} {a : Nat → Nat} {pc : Nat} {ls : Array Slot} {rest : List Value} {cI : ClassId} {y : MethodName} {bytes : ByteArray} {maxL index k mc ms : Nat} {rm : Room} {As : List Value} {r : Int32} {st0 : List Value} {ret : Option FieldType} {sa : Nat → Nat} {σ σ' : gSt} {A : Nat → Prop} {S : lSt}
theorem g_upA {D : va_G} {H H1 : Heap} (hj : g_Inj 131 a) (hP : va_P D vwCl (g_wl 131 a (lE a cI S)) H) (hk : ∀ q : Nat, q < H.size → ¬ g_Own 65 a q → H1[q]? = H[q]?) (hP1 : va_P D vwCl (g_wl 65 a (gE a cI σ')) H1) : va_P D vwCl (g_wl 131 a (lE a cI (σ', S.2.1, S.2.2))) H1 := by
  refine g_embed id hj g_viewA (fun k h => lE_lo h) (fun j hj h => ?_) hP hk hP1
  have h2 : 65 ≤ j := by
    rcases Nat.lt_or_ge j 65 with q | q
    · exact absurd rfl (h j q)
    · exact q
  have h3 : ¬ j < 65 := by omega
  unfold lE
  simp only [if_neg h3]
theorem g_upB {D : va_G} {H H1 : Heap} (hj : g_Inj 131 a) (hP : va_P D vwCl (g_wl 131 a (lE a cI S)) H) (hk : ∀ q : Nat, q < H.size → ¬ g_Own 65 (bA a) q → H1[q]? = H[q]?) (hP1 : va_P D vwCl (g_wl 65 (bA a) (gE (bA a) cI σ')) H1) : va_P D vwCl (g_wl 131 a (lE a cI (S.1, σ', S.2.2))) H1 := by
  refine g_embed (fun j => 65 + j) hj g_viewB (fun k h => lE_hi h) (fun j hj h => ?_) hP hk hP1
  have h2 : j < 65 ∨ j = 130 := by
    rcases Nat.lt_or_ge j 65 with q | q
    · exact Or.inl q
    · rcases Nat.lt_or_ge j 130 with q2 | q2
      · exact absurd (show 65 + (j - 65) = j by omega) (h (j - 65) (by omega))
      · exact Or.inr (by omega)
  rcases h2 with h2 | rfl
  · rw [lE_lo h2, lE_lo h2]
  · rw [lE_c, lE_c]
theorem g_csw {hh : List (Nat × Nat × Nat × Nat)} {n0 : Nat} (hG : ∀ w ∈ gW, w.before args s = true) (hc : Cond.codeWith y bytes maxL (some .int) hh ∈ gW) (hini : Cond.initialized y.cls ∈ gW) (hd : y.cls ≠ "java/lang/invoke/MethodHandle" ∧ y.cls ≠ "java/lang/invoke/VarHandle" ∧ (parseMethodDescriptor y.desc).map (fun d => d.parameters.length) = some n0) (hst : Cond.static y ∈ gW) (h1 : Cond.methodLink RL index y ∈ gW) (hR : rm.frames + 1 ≤ R.frames ∧ 8 + (maxL + 11) + rm.locals ≤ R.locals ∧ rm.cells = mc ∧ rm.slots = ms) : vx_CSW R s args RL index y bytes maxL (some .int) hh (Cond.codeWith y bytes maxL (some .int) hh :: gW) rm mc ms n0 := ⟨⟨hR.2.2.1, hR.2.2.2, hR.1, hR.2.1, pay_in hG (gW_good hc), List.mem_cons_self⟩, hG _ hc, hG _ hini, ⟨hd.1, hd.2.1⟩, fun sig h => by
    have h2 := hd.2.2
    rw [h] at h2
    exact (Option.some.inj h2).symm, hG _ h1, hG _ hst⟩
/-- a wrapper called on the first club -/
theorem g_lcA {hh : List (Nat × Nat × Nat × Nat)} (F : g_LF A p l m c cc nL s args D a cI sa) (hI : g_LS A D a (lE a cI S) s H locs) (hM : Met l y (Cond.codeWith y bytes maxL (some .int) hh :: gW) rm (g_PcL D a (gE a cI S.1) [(cI, .int)] sa As) (g_Qi 65 D a (gE a cI σ') r) mc ms (g_Own 65 a)) (hc : Cond.codeWith y bytes maxL (some .int) hh ∈ gW) (hini : Cond.initialized y.cls ∈ gW) (hd : y.cls ≠ "java/lang/invoke/MethodHandle" ∧ y.cls ≠ "java/lang/invoke/VarHandle" ∧ (parseMethodDescriptor y.desc).map (fun d => d.parameters.length) = some As.length) (hst : Cond.static y ∈ gW) (h1 : Cond.methodLink RL index y ∈ gW) (hR : rm.frames + 1 ≤ R.frames ∧ 8 + (maxL + 11) + rm.locals ≤ R.locals ∧ rm.cells = mc ∧ rm.slots = ms)
    (hls : ls.size = nL) (hstk : st0 = As.reverse ++ rest) (hW : (rest.map fun v => v.category).sum ≤ 8) (hcs : cells + mc ≤ R.cells ∧ slots + ms ≤ R.slots) (hdg : decode cc pc = .ok (.invokestatic index, 3))
    (kk : ∀ (H1 : Heap) (locs1 : List Loc), g_LS A D a (lE a cI (σ', S.2.1, S.2.2)) s H1 locs1 → W p l e R s m args below meth c H1 locs1 (cells + mc) (slots + ms) Q (F0 m (pc + 3) ls (.int r :: rest))) : W p l e R s m args below meth c H locs cells slots Q (F0 m pc ls st0) := by
  have hG := F.1.2.2.2.2
  have h65 : va_P D vwCl (g_wl 65 a (gE a cI S.1)) H := g_sub id g_viewA (fun k h => lE_lo h) hI.1
  have ho : ∀ q, g_Own 65 a q → A q := fun q ⟨k, h1, h2⟩ => by rw [h2]; exact F.2.2.2.1 k (Nat.lt_of_lt_of_le h1 (by decide))
  refine va_calli (vx_runSW (As := As) (rest := rest) F.1 hM (g_csw hG hc hini hd hst h1 hR) ⟨g_blindL, fun U hU hW => ⟨rfl, by rw [hU]; exact h65, va_K.moved hW.alike F.2.1, gXV.warm hW F.2.2.2.2.1, by rw [hU]; exact gXA.moved hW.alike (gXA.narrow (gXA.kept F.2.2.2.2.2.1 hI.2.2.1) ho), gNC.moved hW.alike F.2.2.2.2.2.2.1⟩⟩ rfl rfl hls hstk (lv_room hW) hdg hcs) hI.2 (fun q _ h => ho q h) ho (fun r1 u t H1 locs1 ht hvm hw hB hz hk hS => ?_)
  have hw : r1 = r := hw
  subst hw
  rw [ht] at hB
  exact kk H1 locs1 ⟨g_upA F.2.2.1 hI.1 hk hB, hS⟩
/-- a wrapper called on the second club -/
theorem g_lcB {hh : List (Nat × Nat × Nat × Nat)} (F : g_LF A p l m c cc nL s args D a cI sa) (hI : g_LS A D a (lE a cI S) s H locs) (hM : Met l y (Cond.codeWith y bytes maxL (some .int) hh :: gW) rm (g_PcL D (bA a) (gE (bA a) cI S.2.1) [(cI, .int)] sa As) (g_Qi 65 D (bA a) (gE (bA a) cI σ') r) mc ms (g_Own 65 (bA a))) (hc : Cond.codeWith y bytes maxL (some .int) hh ∈ gW) (hini : Cond.initialized y.cls ∈ gW) (hd : y.cls ≠ "java/lang/invoke/MethodHandle" ∧ y.cls ≠ "java/lang/invoke/VarHandle" ∧ (parseMethodDescriptor y.desc).map (fun d => d.parameters.length) = some As.length) (hst : Cond.static y ∈ gW) (h1 : Cond.methodLink RL index y ∈ gW) (hR : rm.frames + 1 ≤ R.frames ∧ 8 + (maxL + 11) + rm.locals ≤ R.locals ∧ rm.cells = mc ∧ rm.slots = ms)
    (hls : ls.size = nL) (hstk : st0 = As.reverse ++ rest) (hW : (rest.map fun v => v.category).sum ≤ 8) (hcs : cells + mc ≤ R.cells ∧ slots + ms ≤ R.slots) (hdg : decode cc pc = .ok (.invokestatic index, 3))
    (kk : ∀ (H1 : Heap) (locs1 : List Loc), g_LS A D a (lE a cI (S.1, σ', S.2.2)) s H1 locs1 → W p l e R s m args below meth c H1 locs1 (cells + mc) (slots + ms) Q (F0 m (pc + 3) ls (.int r :: rest))) : W p l e R s m args below meth c H locs cells slots Q (F0 m pc ls st0) := by
  have hG := F.1.2.2.2.2
  have h65 : va_P D vwCl (g_wl 65 (bA a) (gE (bA a) cI S.2.1)) H := g_sub (fun j => 65 + j) g_viewB (fun k h => lE_hi h) hI.1
  have ho : ∀ q, g_Own 65 (bA a) q → A q := fun q ⟨k, h1, h2⟩ => by rw [h2]; exact F.2.2.2.1 (65 + k) (by omega)
  refine va_calli (vx_runSW (As := As) (rest := rest) F.1 hM (g_csw hG hc hini hd hst h1 hR) ⟨g_blindL, fun U hU hW => ⟨rfl, by rw [hU]; exact h65, va_K.moved hW.alike F.2.1, gXV.warm hW F.2.2.2.2.1, by rw [hU]; exact gXA.moved hW.alike (gXA.narrow (gXA.kept F.2.2.2.2.2.1 hI.2.2.1) ho), gNC.moved hW.alike F.2.2.2.2.2.2.1⟩⟩ rfl rfl hls hstk (lv_room hW) hdg hcs) hI.2 (fun q _ h => ho q h) ho (fun r1 u t H1 locs1 ht hvm hw hB hz hk hS => ?_)
  have hw : r1 = r := hw
  subst hw
  rw [ht] at hB
  exact kk H1 locs1 ⟨g_upB F.2.2.1 hI.1 hk hB, hS⟩
/-- a call of the class on the first club, that throws nothing -/
theorem g_ldA (F : g_LF A p l m c cc nL s args D a cI sa) (hI : g_LS A D a (lE a cI S) s H locs) (hM : Met l y (Cond.code y bytes maxL ret :: gW) rm (g_Pc 65 D a (gE a cI S.1) [(cI, .int)] (.ref (a 0) :: As)) (g_Qi 65 D a (gE a cI σ') r) 0 0 (g_Own 65 a)) (hb : g_CB y bytes maxL ret As.length) (hi : Cond.instanceMethod y ∈ gW) (hs : Cond.selects RX9 y y ∈ gW) (h1 : Cond.methodLink RL index y ∈ gW) (hR : rm.frames + 1 ≤ R.frames ∧ 8 + (maxL + 11) + rm.locals ≤ R.locals ∧ rm.cells = 0 ∧ rm.slots = 0)
    (hls : ls.size = nL) (hstk : st0 = As.reverse ++ .ref (a 0) :: rest) (hW : (rest.map fun v => v.category).sum ≤ 8) (hcs : cells ≤ R.cells ∧ slots ≤ R.slots) (hdg : decode cc pc = .ok (.invokevirtual index, 3))
    (kk : ∀ (H1 : Heap) (locs1 : List Loc), g_LS A D a (lE a cI (σ', S.2.1, S.2.2)) s H1 locs1 → W p l e R s m args below meth c H1 locs1 cells slots Q (F0 m (pc + 3) ls (.int r :: rest))) : W p l e R s m args below meth c H locs cells slots Q (F0 m pc ls st0) := by
  have hG := F.1.2.2.2.2
  have cb := g_cb (R := R) (s := s) (args := args) (rm := rm) hG hb h1 ⟨hR.1, hR.2.1⟩
  rw [hR.2.2.1, hR.2.2.2] at cb
  have h65 : va_P D vwCl (g_wl 65 a (gE a cI S.1)) H := g_sub id g_viewA (fun k h => lE_lo h) hI.1
  have ho : ∀ q, g_Own 65 a q → A q := fun q ⟨k, h1, h2⟩ => by rw [h2]; exact F.2.2.2.1 k (Nat.lt_of_lt_of_le h1 (by decide))
  refine va_calli (va_runV (C := RX9) (As := As) (rest := rest) F.1 hM ⟨cb, hG _ hi, hG _ hs⟩ ⟨g_blind, va_recv (q0 := 0) (ci := 9) F.2.1 h65 (q := (RX9, TX9, 8)) rfl (by rw [g_wl_at (by decide), gE_0]), fun U hU hW => ⟨rfl, by rw [hU]; exact h65, va_K.moved hW.alike F.2.1⟩⟩ rfl rfl hls hstk (lv_room hW) hdg hcs) hI.2 (fun q _ h => ho q h) ho (fun r1 u t H1 locs1 ht hvm hw hB hz hk hS => ?_)
  have hw : r1 = r := hw
  subst hw
  rw [ht] at hB
  exact kk H1 locs1 ⟨g_upA F.2.2.1 hI.1 hk hB, hS⟩
theorem g_ldB (F : g_LF A p l m c cc nL s args D a cI sa) (hI : g_LS A D a (lE a cI S) s H locs) (hM : Met l y (Cond.code y bytes maxL ret :: gW) rm (g_Pc 65 D (bA a) (gE (bA a) cI S.2.1) [(cI, .int)] (.ref (a 65) :: As)) (g_Qi 65 D (bA a) (gE (bA a) cI σ') r) 0 0 (g_Own 65 (bA a))) (hb : g_CB y bytes maxL ret As.length) (hi : Cond.instanceMethod y ∈ gW) (hs : Cond.selects RX9 y y ∈ gW) (h1 : Cond.methodLink RL index y ∈ gW) (hR : rm.frames + 1 ≤ R.frames ∧ 8 + (maxL + 11) + rm.locals ≤ R.locals ∧ rm.cells = 0 ∧ rm.slots = 0)
    (hls : ls.size = nL) (hstk : st0 = As.reverse ++ .ref (a 65) :: rest) (hW : (rest.map fun v => v.category).sum ≤ 8) (hcs : cells ≤ R.cells ∧ slots ≤ R.slots) (hdg : decode cc pc = .ok (.invokevirtual index, 3))
    (kk : ∀ (H1 : Heap) (locs1 : List Loc), g_LS A D a (lE a cI (S.1, σ', S.2.2)) s H1 locs1 → W p l e R s m args below meth c H1 locs1 cells slots Q (F0 m (pc + 3) ls (.int r :: rest))) : W p l e R s m args below meth c H locs cells slots Q (F0 m pc ls st0) := by
  have hG := F.1.2.2.2.2
  have cb := g_cb (R := R) (s := s) (args := args) (rm := rm) hG hb h1 ⟨hR.1, hR.2.1⟩
  rw [hR.2.2.1, hR.2.2.2] at cb
  have h65 : va_P D vwCl (g_wl 65 (bA a) (gE (bA a) cI S.2.1)) H := g_sub (fun j => 65 + j) g_viewB (fun k h => lE_hi h) hI.1
  have ho : ∀ q, g_Own 65 (bA a) q → A q := fun q ⟨k, h1, h2⟩ => by rw [h2]; exact F.2.2.2.1 (65 + k) (by omega)
  refine va_calli (va_runV (C := RX9) (As := As) (rest := rest) F.1 hM ⟨cb, hG _ hi, hG _ hs⟩ ⟨g_blind, va_recv (q0 := 0) (ci := 9) F.2.1 h65 (q := (RX9, TX9, 8)) rfl (by rw [g_wl_at (by decide), gE_0]; rfl), fun U hU hW => ⟨rfl, by rw [hU]; exact h65, va_K.moved hW.alike F.2.1⟩⟩ rfl rfl hls hstk (lv_room hW) hdg hcs) hI.2 (fun q _ h => ho q h) ho (fun r1 u t H1 locs1 ht hvm hw hB hz hk hS => ?_)
  have hw : r1 = r := hw
  subst hw
  rw [ht] at hB
  exact kk H1 locs1 ⟨g_upB F.2.2.1 hI.1 hk hB, hS⟩
theorem g_lald (F : g_LF A p l m c cc nL s args D a cI sa) (hI : g_LS A D a (lE a cI S) s H locs) (hdg : decode cc pc = .ok (.iaload, 1))
    (kk : W p l e R s m args below meth c H locs cells slots Q (F0 m (pc + 1) ls (.int (S.2.2 0) :: rest))) : W p l e R s m args below meth c H locs cells slots Q (F0 m pc ls (.int 0 :: .ref (a 130) :: rest)) :=
  va_iald (D := D) F.1.1 F.1.2.1 F.2.1 hI.1 130 0 (by rw [g_wl_at (by decide), lE_c]) rfl (by unfold vp_in; decide) hdg kk
theorem g_last {x : Int32} (F : g_LF A p l m c cc nL s args D a cI sa) (hI : g_LS A D a (lE a cI S) s H locs) (hdg : decode cc pc = .ok (.iastore, 1))
    (kk : ∀ (H1 : Heap) (locs1 : List Loc), g_LS A D a (lE a cI (S.1, S.2.1, upd S.2.2 0 x)) s H1 locs1 → W p l e R s m args below meth c H1 locs1 cells slots Q (F0 m (pc + 1) ls rest)) : W p l e R s m args below meth c H locs cells slots Q (F0 m pc ls (.int x :: .int 0 :: .ref (a 130) :: rest)) :=
  va_iast (D := D) F.1.1 F.1.2.1 F.2.1 hI.1 (g_D F.2.2.1 F.2.2.2.1) hI.2 130 0 (by rw [g_wl_at (by decide), lE_c]) rfl (by unfold vp_in; decide) hdg (fun H1 locs1 hP _ hS => kk H1 locs1 ⟨by
    rw [show (0 : Int32).toNatClampNeg = 0 from rfl, g_wl_set (E' := lE a cI (S.1, S.2.1, upd S.2.2 0 x)) (by decide) lE_c lE_up] at hP; exact hP, hS⟩)
end GLR
