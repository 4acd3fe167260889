/-! the law's worlds: the class's cells, the long[] (cell 65), the reference's (66..86) -/
def wE (a : Nat → Nat) (cI cJ : ClassId) (σ : gSt) (f : Nat → Int64) (k : Nat) : va_E := if k < 65 then gE a cI σ k else .inl (cJ, 1, .inr (.inl f))
theorem wE_lo {a : Nat → Nat} {cI cJ : ClassId} {σ : gSt} {f : Nat → Int64} {k : Nat} (h : k < 65) : wE a cI cJ σ f k = gE a cI σ k := if_pos h
theorem wE_out {a : Nat → Nat} {cI cJ : ClassId} {σ : gSt} {f : Nat → Int64} : wE a cI cJ σ f 65 = .inl (cJ, 1, .inr (.inl f)) := rfl
theorem wE_up {a : Nat → Nat} {cI cJ : ClassId} {σ : gSt} {f f' : Nat → Int64} (j : Nat) (hj : j < 66) (hne : j ≠ 65) : wE a cI cJ σ f' j = wE a cI cJ σ f j := by
  rw [wE_lo (by omega), wE_lo (by omega)]
abbrev lSt : Type := gSt × gSt × (Nat → Int64)
def lE (a : Nat → Nat) (cI cZ cJ : ClassId) (S : lSt) (k : Nat) : va_E := if k < 66 then wE a cI cJ S.1 S.2.2 k else mE (fun j => a (66 + j)) cI cZ S.2.1 (k - 66)
theorem lE_lo {a : Nat → Nat} {cI cZ cJ : ClassId} {S : lSt} {k : Nat} (h : k < 66) : lE a cI cZ cJ S k = wE a cI cJ S.1 S.2.2 k := if_pos h
theorem lE_hi {a : Nat → Nat} {cI cZ cJ : ClassId} {S : lSt} {k : Nat} : lE a cI cZ cJ S (66 + k) = mE (fun j => a (66 + j)) cI cZ S.2.1 k := by
  unfold lE
  rw [if_neg (by omega), show 66 + k - 66 = k by omega]
/-- a smaller world in a larger one -/
theorem g_sub {n1 n : Nat} {D : va_G} {a1 a : Nat → Nat} {E1 E : Nat → va_E} {H : Heap} (ι : Nat → Nat) (hι : ∀ k, k < n1 → ι k < n ∧ a1 k = a (ι k)) (hE : ∀ k, k < n1 → E (ι k) = E1 k) (hP : va_P D vwCl (g_wl n a E) H) : va_P D vwCl (g_wl n1 a1 E1) H := by
  intro k q hq
  obtain ⟨hk, rfl⟩ := g_wl_inv hq
  have h := hP (ι k) _ (g_wl_at (hι k hk).1)
  rw [hE k hk, ← (hι k hk).2] at h
  exact h
theorem g_embed {n1 n : Nat} {D : va_G} {a1 a : Nat → Nat} {E1' E E' : Nat → va_E} {H H1 : Heap} (ι : Nat → Nat) (hj : g_Inj n a) (hι : ∀ k, k < n1 → ι k < n ∧ a1 k = a (ι k)) (hin : ∀ k, k < n1 → E' (ι k) = E1' k) (hout : ∀ j, j < n → (∀ k, k < n1 → ι k ≠ j) → E' j = E j) (hP : va_P D vwCl (g_wl n a E) H) (hk : ∀ q : Nat, q < H.size → ¬ g_Own n1 a1 q → H1[q]? = H[q]?) (hP1 : va_P D vwCl (g_wl n1 a1 E1') H1) : va_P D vwCl (g_wl n a E') H1 := by
  intro j q hq
  obtain ⟨hj1, rfl⟩ := g_wl_inv hq
  by_cases h : ∃ k, k < n1 ∧ ι k = j
  · obtain ⟨k, h1, rfl⟩ := h
    have h2 := hP1 k _ (g_wl_at h1)
    rw [hin k h1, ← (hι k h1).2]
    exact h2
  · have h1 : ∀ k, k < n1 → ι k ≠ j := fun k hk he => h ⟨k, hk, he⟩
    have h2 := hP j _ (g_wl_at hj1)
    rw [hout j hj1 h1]
    refine h2.kept (hk _ h2.lt ?_)
    rintro ⟨k, h3, h4⟩
    have h5 : a j = a (ι k) := by rw [← (hι k h3).2]; exact h4
    exact h1 k h3 (hj j (ι k) hj1 (hι k h3).1 h5).symm
theorem g_own_sub {n1 n : Nat} {a1 a : Nat → Nat} (ι : Nat → Nat) (hι : ∀ k, k < n1 → ι k < n ∧ a1 k = a (ι k)) (q : Nat) (h : g_Own n1 a1 q) : g_Own n a q := by
  obtain ⟨k, h1, h2⟩ := h
  exact ⟨ι k, (hι k h1).1, h2.trans (hι k h1).2⟩
theorem g_inj_sub {n1 n : Nat} {a : Nat → Nat} (h : n1 ≤ n) (hj : g_Inj n a) : g_Inj n1 a := fun i j hi hk he => hj i j (Nat.lt_of_lt_of_le hi h) (Nat.lt_of_lt_of_le hk h) he
def gNC (U : State) : Prop := va_Nc "java/lang/IllegalArgumentException" "java/lang/IndexOutOfBoundsException" U ∧ va_Nc "java/lang/IllegalStateException" "java/lang/IndexOutOfBoundsException" U ∧ va_Nc "java/lang/IllegalStateException" "java/lang/IllegalArgumentException" U ∧ va_Nc "java/lang/IllegalArgumentException" "java/lang/IllegalStateException" U
theorem gNC.moved {u U : State} (hvm : u.vm.Alike U.vm) (h : gNC u) : gNC U := ⟨va_Nc.moved hvm h.1, va_Nc.moved hvm h.2.1, va_Nc.moved hvm h.2.2.1, va_Nc.moved hvm h.2.2.2⟩
def g_XL (sa : Nat → Nat) (a : Nat → Nat) (s : State) : Prop := gXV sa s ∧ gXA (g_Own 66 a) s s.heap ∧ gNC s
def g_PcL (D : va_G) (a : Nat → Nat) (E : Nat → va_E) (tys : List (ClassId × FieldType)) (sa : Nat → Nat) (av : List Value) : Array Value → State → Prop := va_Pc av (fun U => va_P D vwCl (g_wl 66 a E) U.heap ∧ va_K D vwCl tys U ∧ g_XL sa a U)
theorem g_blindL {D : va_G} {a : Nat → Nat} {E : Nat → va_E} {tys : List (ClassId × FieldType)} {sa : Nat → Nat} {av : List Value} : FrameBlind (g_PcL D a E tys sa av) := fun aa U g mk q => ⟨q.1, q.2.1, va_K.moved (u := U) (U := U.calling g mk aa) (Vm.Alike.refl U.vm) q.2.2.1, gXV.same (u := U) (U := U.calling g mk aa) rfl q.2.2.2.1, gXA.moved (u := U) (U := U.calling g mk aa) (Vm.Alike.refl U.vm) q.2.2.2.2.1, gNC.moved (u := U) (U := U.calling g mk aa) (Vm.Alike.refl U.vm) q.2.2.2.2.2⟩
/-- a wrapper of the law, by its body -/
theorem g_metL {l : Launch} {y : MethodName} {cc : ByteArray} {maxL : Nat} {hh : List (Nat × Nat × Nat × Nat)} {rm : Room} {D : va_G} {a : Nat → Nat} {E E' : Nat → va_E} {tys : List (ClassId × FieldType)} {av : List Value} {sa : Nat → Nat} {mc ms : Nat} {r : Int32} (hy : plainName y.cls = true) (hj : g_Inj 66 a) (hn : (lg_sl av).length ≤ maxL)
    (body : ∀ (p : Program) (e : Env) (s : State) (m : MethodId) (args : Array Value) (below : List Frame) (meth : Method) (c : Code) (Q : State → Prop) (ls : Array Slot), g_F p m c cc maxL s args y.cls D tys 66 a → g_XL sa a s → c.exceptionTable.toList = tableOf hh → lv_has ls maxL (lv_args 0 av) → g_S 66 D a E s.heap s.heap [] →
      (∀ (H1 : Heap) (locs1 : List Loc) (pc1 : Nat) (ls1 : Array Slot) (cl sl : Nat), cl ≤ mc → sl ≤ ms → g_S 66 D a E' s.heap H1 locs1 → decode cc pc1 = .ok (.ireturn, 1) → W p l e rm s m args below meth c H1 locs1 cl sl Q (F0 m pc1 ls1 [.int r])) → W p l e rm s m args below meth c s.heap [] 0 0 Q (F0 m 0 ls [])) :
    Met l y (Cond.codeWith y cc maxL (some .int) hh :: gW) rm (g_PcL D a E tys sa av) (g_Qi 66 D a E' r) mc ms (g_Own 66 a) := by
  refine va_MetW (cc := cc) (maxL := maxL) (ret := some .int) hy rfl ?_
  intro p e s m args below meth c s₁ B hml hv
  obtain ⟨rfl, hP, hK, hX⟩ := hv
  have hts := atoms_spec (ws := Cond.codeWith y cc maxL (some .int) hh :: gW) B.pre
  have hl := lv_entry av (n := maxL) hn
  rw [lg_entry_eq]
  generalize (lg_sl av ++ List.replicate (maxL - (lg_sl av).length) Slot.unset).toArray = ls at hl ⊢
  refine body p e s m _ below meth c _ ls ⟨⟨B.exec, B.bytes, hml, findClass_of_methodNamed B.named, fun w h => hts w (List.mem_cons_of_mem _ h)⟩, hK, hj⟩ hX (vx_table (x := y) B (hts _ List.mem_cons_self)) hl ⟨hP, va_S.rf⟩ (fun H1 locs1 pc1 ls1 cl sl hc hs hS hd => ?_)
  exact W.widen hc hs (W.iret (v := r) B.exec B.bytes B.returns (fun t ht hW => ⟨⟨r, (), rfl, rfl, by show va_P D vwCl (g_wl 66 a E') t.heap; rw [ht]; exact hS.1⟩, hS.2.F ht⟩) hS.2.2.2 hd B.notSynchronized)
section GL
variable {p : Program} {l : Launch} {e : Env} {R : Room} {s : State} {m : MethodId} {args : Array Value} {below : List Frame} {meth : Method} {c : Code} {H : Heap} {locs : List Loc} {cells slots : Nat} {Q : State → Prop} {cc : ByteArray} {nL : Nat} {own : String} {D : va_G} {tys : List (ClassId × FieldType)} {a : Nat → Nat} {pc : Nat} {ls : Array Slot} {rest : List Value} {cI cJ cZ : ClassId}
variable {y : MethodName} {bytes : ByteArray} {maxL index k mc ms : Nat} {rm : Room} {As : List Value} {r : Int32} {st0 : List Value} {ret : Option FieldType} {sa : Nat → Nat} {σ σ' : gSt} {f : Nat → Int64}
/-- a wrapper's call of the class -/
theorem g_callXWi (F : g_F p m c cc nL s args own D [(cI, .int), (cJ, .long)] 66 a) (X : g_XL sa a s) (hI : g_S 66 D a (wE a cI cJ σ f) s.heap H locs) (hM : vx_Met l y (Cond.code y bytes maxL ret :: gW) rm (g_PcX 65 D a (gE a cI σ) [(cI, .int)] sa (.ref (a 0) :: As)) (g_QXi 65 D a (gE a cI σ') k r) (g_XC 65 D a (gE a cI σ') k) mc ms (g_Own 65 a)) (hb : g_CB y bytes maxL ret As.length) (hi : Cond.instanceMethod y ∈ gW) (hs : Cond.selects RX9 y y ∈ gW) (h1 : Cond.methodLink own index y ∈ gW) (hR : rm.frames + 1 ≤ R.frames ∧ 8 + (maxL + 11) + rm.locals ≤ R.locals ∧ rm.cells = mc ∧ rm.slots = ms)
    (hls : ls.size = nL) (hst : st0 = As.reverse ++ .ref (a 0) :: rest) (hW : (rest.map fun v => v.category).sum ≤ 8) (hcs : cells + mc ≤ R.cells ∧ slots + ms ≤ R.slots) (hdg : decode cc pc = .ok (.invokevirtual index, 3))
    (kx : ∀ (H1 : Heap) (locs1 : List Loc) (ce : Cell) (q9 : Addr), k ≠ 0 → g_S 66 D a (wE a cI cJ σ' f) s.heap H1 locs1 → H1[q9]? = some ce → ce.vm = .none → s.vm.findClass (exN k) = some ce.cls → vx_W p l e R s m args below meth c H1 locs1 (cells + mc) (slots + ms) Q (F0 m pc ls rest) q9)
    (kk : ∀ (H1 : Heap) (locs1 : List Loc), k = 0 → g_S 66 D a (wE a cI cJ σ' f) s.heap H1 locs1 → W p l e R s m args below meth c H1 locs1 (cells + mc) (slots + ms) Q (F0 m (pc + 3) ls (.int r :: rest))) : W p l e R s m args below meth c H locs cells slots Q (F0 m pc ls st0) := by
  have cb := g_cb (R := R) (s := s) (args := args) (rm := rm) F.1.2.2.2.2 hb h1 ⟨hR.1, hR.2.1⟩
  rw [hR.2.2.1, hR.2.2.2] at cb
  have hι : ∀ k, k < 65 → id k < 66 ∧ a k = a (id k) := fun k h => ⟨Nat.lt_of_lt_of_le h (by decide), rfl⟩
  have h65 : va_P D vwCl (g_wl 65 a (gE a cI σ)) H := g_sub id hι (fun k h => wE_lo h) hI.1
  have ho : ∀ q, g_Own 65 a q → g_Own 66 a q := g_own_sub id hι
  have hup : ∀ H1 : Heap, (∀ q : Nat, q < H.size → ¬ g_Own 65 a q → H1[q]? = H[q]?) → va_P D vwCl (g_wl 65 a (gE a cI σ')) H1 → va_P D vwCl (g_wl 66 a (wE a cI cJ σ' f)) H1 := fun H1 hk hP1 => g_embed id F.2.2 hι (fun k h => wE_lo h) (fun j hj h => by
    have h2 : j = 65 := by
      rcases Nat.lt_or_ge j 65 with q | q
      · exact absurd rfl (h j q)
      · omega
    subst h2; rfl) hI.1 hk hP1
  refine vx_calli (vx_runV (C := RX9) (As := As) (rest := rest) F.1 hM ⟨cb, F.1.2.2.2.2 _ hi, F.1.2.2.2.2 _ hs⟩ ⟨g_blindX, va_recv (q0 := 0) (ci := 9) F.2.1 h65 (q := (RX9, TX9, 8)) rfl (by rw [g_wl_at (by decide), gE_0]), fun U hU hW => ⟨rfl, by rw [hU]; exact h65, va_K.moved hW.alike (F.2.1.sub [0] rfl), gXV.warm hW X.1, by rw [hU]; exact gXA.moved hW.alike (gXA.narrow (gXA.kept X.2.1 hI.2.2.1) ho)⟩⟩ rfl rfl hls hst (lv_room hW) hdg hcs) hI.2 (fun q _ h => ho q h) ho (fun q _ h => ho q h) (fun Ex ce q9 u t H1 locs1 ht hvm hw hB hz hk hS h1 h2 h3 => ?_) (fun r1 u t H1 locs1 ht hvm hw hB hz hk hS => ?_)
  · obtain ⟨rfl, hB⟩ := hB
    rw [ht] at hB
    exact kx H1 locs1 ce q9 hw ⟨hup H1 hk hB, hS⟩ h1 h2 h3
  · obtain ⟨hk0, hw⟩ := hw
    subst hw
    rw [ht] at hB
    exact kk H1 locs1 hk0 ⟨hup H1 hk hB, hS⟩
theorem g_wlast (F : g_F p m c cc nL s args own D [(cI, .int), (cJ, .long)] 66 a) (hI : g_S 66 D a (wE a cI cJ σ f) s.heap H locs) {x : Int64} (hdg : decode cc pc = .ok (.lastore, 1))
    (kk : ∀ (H1 : Heap) (locs1 : List Loc), g_S 66 D a (wE a cI cJ σ (vp_updL f 0 x)) s.heap H1 locs1 → W p l e R s m args below meth c H1 locs1 cells slots Q (F0 m (pc + 1) ls rest)) : W p l e R s m args below meth c H locs cells slots Q (F0 m pc ls (.long x :: .int 0 :: .ref (a 65) :: rest)) :=
  va_last (D := D) F.1.1 F.1.2.1 F.2.1 hI.1 (g_Do F.2.2) hI.2 65 1 (by rw [g_wl_at (by decide), wE_out]) rfl (by unfold vp_in; decide) hdg (fun H1 locs1 hP _ hS => kk H1 locs1 ⟨by
    rw [show (0 : Int32).toNatClampNeg = 0 from rfl, g_wl_set (E' := wE a cI cJ σ (vp_updL f 0 x)) (by decide) wE_out wE_up] at hP; exact hP, hS⟩)
end GL
