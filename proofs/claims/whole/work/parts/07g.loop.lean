/-! the law's start: from its entry to the head of its loop, and the loop -/
def f_L_cell (L : Nat) (xs : Nat → Int32) (k : Int32) : Int32 := if Int32.ofNat L ≤ k then 0 else xs k.toNatClampNeg
abbrev rmL_cell : Room := { frames := 0, cells := 0, slots := 0, locals := 0 }
theorem kb_L_cell : g_CB yL_cell cL_cell 2 (some .int) 2 := ⟨kc_L_cell, kn_L, by decide +kernel⟩
set_option maxRecDepth 100000 in
theorem c_L_cell (l : Launch) (sz b L : Nat) (xs : Nat → Int32) (hL : L ≤ 3074) (k : Int32) (hk : ¬ k < 0) : Met l yL_cell (Cond.code yL_cell cL_cell 2 (some .int) :: gW) rmL_cell (va_Pc [.ref b, .int k] (fun U => U.heap.size = sz ∧ va_X b L xs U U.heap ∧ b < U.heap.size)) (va_Qi (fun (r1 : Int32) (_ : Unit) => r1 = f_L_cell L xs k) (fun (_ : Unit) t => t.heap.size = sz) (fun _ => False)) 0 0 (fun _ => False) := by
  refine Met.ofW (cc := cL_cell) (maxL := 2) (ret := some .int) (by decide) rfl ?_
  intro p e s m args below meth c s₁ B hml hv
  obtain ⟨rfl, hsz, hX, hbl⟩ := hv
  have hx := B.exec
  have hb := B.bytes
  have hr := B.returns
  have hlocks := B.notSynchronized
  have hS : va_S (fun _ => False) s.heap s.heap [] := va_S.rf
  have hl := lv_entry [.ref b, .int k] (n := 2) (Nat.le_of_ble_eq_true rfl)
  rw [lg_entry_eq]
  generalize (lg_sl [.ref b, .int k] ++ List.replicate (2 - (lg_sl [.ref b, .int k]).length) Slot.unset).toArray = ls at hl ⊢
  have hl : lv_has ls 2 [(0, .ref b), (1, .int k)] := hl
  have fin : ∀ (v : Int32), v = f_L_cell L xs k → W p l e rmL_cell s m ([.ref b, .int k] : List Value).toArray below meth c s.heap [] 0 0 (MQ below (va_Qi (fun (r1 : Int32) (_ : Unit) => r1 = f_L_cell L xs k) (fun (_ : Unit) t => t.heap.size = sz) (fun _ => False)) ([.ref b, .int k] : List Value).toArray s 0 0 (fun _ => False)) (F0 m 13 ls [.int v]) := fun v hv =>
    W.iret hx hb hr (fun t ht hW => ⟨⟨v, (), rfl, hv, by show t.heap.size = sz; rw [ht]; exact hsz⟩, ⟨by rw [ht]; exact Nat.le_refl _, fun q _ _ => by rw [ht]⟩⟩) (fun q h => by cases h) dL_cell_13 hlocks
  refine lv_iload_n hx hb dL_cell_0 rfl (lv_at hl 1 rfl) ?_
  refine lv_aload_n hx hb dL_cell_1 rfl (lv_at hl 0 rfl) ?_
  refine va_slen hx hb hX hbl (fun h => h) hS dL_cell_2 ?_
  refine lv_icmp_ge (tgt := 12) hx hb dL_cell_3 (by decide) (fun c1 => ?_) (fun c1 => ?_)
  · refine lv_iconst (v := 0) hx hb dL_cell_12 (by decide) ?_
    exact fin 0 (if_pos c1).symm
  · refine lv_aload_n hx hb dL_cell_6 rfl (lv_at hl 0 rfl) ?_
    refine lv_iload_n hx hb dL_cell_7 rfl (lv_at hl 1 rfl) ?_
    refine va_sld hx hb hX hbl (fun h => h) hS (g_vin (by omega) hk c1) dL_cell_8 ?_
    refine lv_goto (tgt := 13) hx hb dL_cell_9 (by decide) ?_
    exact fin _ (if_neg c1).symm
section GSt
variable {p : Program} {l : Launch} {e : Env} {R : Room} {s : State} {m : MethodId} {args : Array Value} {below : List Frame} {meth : Method} {c : Code} {H : Heap} {locs : List Loc} {cells slots : Nat} {Q : State → Prop} {D : va_G} {tys : List (ClassId × FieldType)} {pc : Nat} {ls : Array Slot} {rest : List Value} {A : Nat → Prop} {ws : va_W} {index b L : Nat} {xs : Nat → Int32} {k : Int32} {cI : ClassId}
theorem g_lcell (F : CallFix p m c cL_law 7 s args gW RL) (hX : va_X b L xs s s.heap) (hbl : b < s.heap.size) (hbA : ¬ A b) (hL : L ≤ 3074) (hP : va_P D vwCl ws H) (hS : va_S A s.heap H locs) (hk0 : ¬ k < 0) (hls : ls.size = 7) (hR : 1 ≤ R.frames ∧ 21 ≤ R.locals) (hW : (rest.map fun v => v.category).sum ≤ 8) (hcs : cells ≤ R.cells ∧ slots ≤ R.slots) (hdg : decode cL_law pc = .ok (.invokestatic index, 3)) (h1 : Cond.methodLink RL index yL_cell ∈ gW)
    (kk : ∀ (H1 : Heap) (locs1 : List Loc), va_P D vwCl ws H1 → va_S A s.heap H1 locs1 → H1.size = H.size → W p l e R s m args below meth c H1 locs1 cells slots Q (F0 m (pc + 3) ls (.int (f_L_cell L xs k) :: rest))) : W p l e R s m args below meth c H locs cells slots Q (F0 m pc ls (.int k :: .ref b :: rest)) := by
  have cb := g_cb (R := R) (s := s) (args := args) (rm := rmL_cell) F.2.2.2.2 kb_L_cell h1 ⟨hR.1, hR.2⟩
  refine va_calli (va_runS (As := [.ref b, .int k]) (rest := rest) F (c_L_cell l H.size b L xs hL k hk0) ⟨cb, F.2.2.2.2 _ kt_L_cell⟩ ⟨fun aa U g mk q => ⟨q.1, q.2.1, va_X.moved (u := U) (U := U.calling g mk aa) (Vm.Alike.refl U.vm) q.2.2.1, q.2.2.2⟩, fun U hU hW => ⟨rfl, by rw [hU], by rw [hU]; exact va_X.moved hW.alike (hX.kept (hS.2.1 b hbl hbA)), by rw [hU]; exact Nat.lt_of_lt_of_le hbl hS.1⟩⟩ rfl rfl hls rfl (lv_room hW) hdg hcs) hS (fun q _ h => h.elim) (fun q h => h.elim) (fun r1 u t H1 locs1 ht hvm hw hB hz hk hS1 => ?_)
  have hw : r1 = f_L_cell L xs k := hw
  subst hw
  rw [ht] at hB
  exact kk H1 locs1 (hP.kept (fun k q hq => hk q.1 (hP k q hq).lt (fun h => h))) hS1 hB
variable {bytes : ByteArray} {maxL mc ms : Nat} {rm : Room} {As st0 : List Value} {e0 : Nat × va_E} {w1 : va_W} {sz z : Nat}
theorem g_callCX (F : CallFix p m c cL_law 7 s args gW RL) (hK : va_K D vwCl tys s) (hN : gNest s) (hP : va_P D vwCl [e0] H) (hD : va_D A [e0]) (hS : va_S A s.heap H locs) (hA : ∀ q, s.heap.size ≤ q → A q) (hz : H.size = sz)
    (hM : Met l yX9_init (Cond.code yX9_init cX9_init 3 none :: gW) rm (g_CPcN D e0 [(cI, .int)] sz (.ref e0.1 :: As)) (g_CQ D e0 w1 sz z) mc ms (va_A [e0] sz)) (ht0 : tys[0]? = some (cI, .int)) (hb : g_CB yX9_init cX9_init 3 none As.length) (h1 : Cond.methodLink RL index yX9_init ∈ gW) (hRm : rm.frames + 1 ≤ R.frames ∧ 8 + (3 + 11) + rm.locals ≤ R.locals ∧ rm.cells = mc ∧ rm.slots = ms)
    (hls : ls.size = 7) (hst : st0 = As.reverse ++ .ref e0.1 :: rest) (hW : (rest.map fun v => v.category).sum ≤ 8) (hcs : cells + mc ≤ R.cells ∧ slots + ms ≤ R.slots) (hdg : decode cL_law pc = .ok (.invokespecial index, 3))
    (kk : ∀ (H1 : Heap) (locs1 : List Loc), va_P D vwCl w1 H1 → va_D A w1 → va_S A s.heap H1 locs1 → H1.size = z → W p l e R s m args below meth c H1 locs1 (cells + mc) (slots + ms) Q (F0 m (pc + 3) ls rest)) : W p l e R s m args below meth c H locs cells slots Q (F0 m pc ls st0) := by
  subst hz
  have cb := g_cb (R := R) (s := s) (args := args) (rm := rm) F.2.2.2.2 hb h1 ⟨hRm.1, hRm.2.1⟩
  rw [hRm.2.2.1, hRm.2.2.2] at cb
  have hC1 : [0].map (fun i => [e0][i]?) = [e0].map some := rfl
  have hFc := va_free (wc := [e0]) hD hS hA [0] hC1
  have hK1 : va_K D vwCl [(cI, .int)] s := hK.sub [0] (by simp [ht0])
  refine va_callv (va_runI (As := As) (rest := rest) F hM ⟨cb, rfl, F.2.2.2.2 _ ki_X9_init⟩ ⟨fun aa U g mk q => ⟨q.1, q.2.1, q.2.2.1, va_K.moved (u := U) (U := U.calling g mk aa) (Vm.Alike.refl U.vm) q.2.2.2.1, va_Nw.same rfl rfl q.2.2.2.2.1, va_Nw.same rfl rfl q.2.2.2.2.2.1, va_Nw.same rfl rfl q.2.2.2.2.2.2⟩, fun U hU hW => ⟨rfl, by rw [hU], by rw [hU]; exact hP, va_K.moved hW.alike hK1, va_Nw.warmM hW hN.1, va_Nw.warmM hW hN.2.1, va_Nw.warmM hW hN.2.2⟩⟩ rfl rfl hls hst (lv_room hW) hdg hcs) hS (fun q _ h => hFc q h) hFc (fun u t H1 locs1 ht hvm hw hB hz1 hk1 hS1 => ?_)
  obtain ⟨hP1, hD1, hz2⟩ := hB
  rw [ht] at hP1 hz2
  exact kk H1 locs1 hP1 (hD1.weaken (fun _ _ _ h => hFc _ h)) hS1 hz2
end GSt
def pa (k : Nat) : Nat := [0, 1, 6, 13, 20, 25, 30, 39, 54, 2, 4, 7, 9, 11, 14, 16, 18, 21, 23, 26, 28, 31, 33, 35, 37, 40, 42, 44, 46, 48, 50, 52, 55, 57, 59, 61, 63, 3, 5, 8, 10, 12, 15, 17, 19, 22, 24, 27, 29, 32, 34, 36, 38, 41, 43, 45, 47, 49, 51, 53, 56, 58, 60, 62, 64, 86, 65, 66, 67, 68, 69, 70, 71, 72, 73, 74, 75, 76, 77, 78, 79, 80, 81, 82, 83, 84, 85].getD k 0
theorem pa_inj : ∀ i, i < 87 → ∀ j, j < 87 → pa i = pa j → i = j := by decide +kernel
def aL (z k : Nat) : Nat := z + pa k
theorem aL_inj (z : Nat) : g_Inj 87 (aL z) := fun i j hi hj h => pa_inj i hi j hj (Nat.add_left_cancel h)
def S0c (u0 u1 : Int32) : gSt := (fun _ _ => 0, fun k => if k = 0 then f_X9_sideWithinLimits u0 else if k = 1 then f_X9_sideWithinLimits u1 else 0)
def S0m (u0 u1 : Int32) : gSt := (fun r => if r = 8 then gneg 24 else fun _ => 0, fun k => if k = 0 then mside u0 else if k = 1 then mside u1 else 0)
def S0L (u0 u1 : Int32) : lSt := (S0c u0 u1, S0m u0 u1, fun _ => 0)
def f_L_disp (N L : Nat) (xs : Nat → Int32) (i : Int32) (S : lSt) (jn : lSt → Option Int32) : Option Int32 :=
  if xs i.toNatClampNeg &&& 31 = 0 then f_L_case0 N L xs i S jn else
  if xs i.toNatClampNeg &&& 31 = 1 then f_L_case1 N L xs i S jn else
  if xs i.toNatClampNeg &&& 31 = 2 then f_L_case2 N L xs i S jn else
  if xs i.toNatClampNeg &&& 31 = 3 then f_L_case3 N L xs i S jn else
  if xs i.toNatClampNeg &&& 31 = 4 then f_L_case4 N L xs i S jn else
  if xs i.toNatClampNeg &&& 31 = 5 then f_L_case5 N L xs i S jn else
  if xs i.toNatClampNeg &&& 31 = 6 then f_L_case6 N L xs i S jn else
  if xs i.toNatClampNeg &&& 31 = 7 then f_L_case7 N L xs i S jn else
  if xs i.toNatClampNeg &&& 31 = 8 then f_L_case8 N L xs i S jn else
  if xs i.toNatClampNeg &&& 31 = 9 then f_L_case9 N L xs i S jn else
  if xs i.toNatClampNeg &&& 31 = 10 then f_L_case10 N L xs i S jn else
  if xs i.toNatClampNeg &&& 31 = 11 then f_L_case11 N L xs i S jn else
  if xs i.toNatClampNeg &&& 31 = 12 then f_L_case12 N L xs i S jn else
  if xs i.toNatClampNeg &&& 31 = 13 then f_L_case13 N L xs i S jn else
  if xs i.toNatClampNeg &&& 31 = 14 then f_L_case14 N L xs i S jn else
  if xs i.toNatClampNeg &&& 31 = 15 then f_L_case15 N L xs i S jn else
  if xs i.toNatClampNeg &&& 31 = 16 then f_L_case16 N L xs i S jn else
  if xs i.toNatClampNeg &&& 31 = 17 then f_L_case17 N L xs i S jn else
  if xs i.toNatClampNeg &&& 31 = 18 then f_L_case18 N L xs i S jn else
  if xs i.toNatClampNeg &&& 31 = 19 then f_L_case19 N L xs i S jn else
  if xs i.toNatClampNeg &&& 31 = 20 then f_L_case20 N L xs i S jn else
  if xs i.toNatClampNeg &&& 31 = 21 then f_L_case21 N L xs i S jn else
  if xs i.toNatClampNeg &&& 31 = 22 then f_L_case22 N L xs i S jn else
  if xs i.toNatClampNeg &&& 31 = 23 then f_L_case23 N L xs i S jn else
  if xs i.toNatClampNeg &&& 31 = 24 then f_L_case24 N L xs i S jn else
  if xs i.toNatClampNeg &&& 31 = 25 then f_L_case25 N L xs i S jn else
  if xs i.toNatClampNeg &&& 31 = 26 then f_L_case26 N L xs i S jn else
  if xs i.toNatClampNeg &&& 31 = 27 then f_L_case27 N L xs i S jn else
  if xs i.toNatClampNeg &&& 31 = 28 then f_L_case28 N L xs i S jn else
  jn S
def f_L_loop (N L : Nat) (xs : Nat → Int32) : Nat → Int32 → lSt → Option Int32
  | 0, _, _ => none
  | n + 1, i, S => if Int32.ofNat L - 6 < i then some 1 else if i < 0 ∨ L ≤ i.toNatClampNeg then none else f_L_disp N L xs i S (fun S => f_L_loop N L xs n (i + 6) S)
set_option maxRecDepth 100000 in
set_option maxHeartbeats 8000000 in
theorem law_disp {p : Program} {e : Env} {s : State} {m : MethodId} {below : List Frame} {meth : Method} {c : Code} {l : Launch} {b L : Nat} {xs : Nat → Int32} {D : va_G} {a : Nat → Nat} {cI cZ cJ : ClassId} {sa : Nat → Nat} {Q : State → Prop} {N : Nat} {i : Int32} {S : lSt} {jn : lSt → Option Int32} {out : Int32} {K SL : Nat} (F : g_LF p l m c s #[Value.ref b] D a cI cZ cJ sa) (hX : va_X b L xs s s.heap) (hbl : b < s.heap.size) (hK : K + 8 ≤ 601024) (hSL : SL + 48 ≤ 7293000)
    (hq : ∀ {S : lSt} (H : Heap) (locs : List Loc) (pc : Nat) (ls : Array Slot) (cl sl : Nat), cl ≤ 601024 → sl ≤ 7293000 → g_LS D a (lE a cI cZ cJ S) s H locs → decode cL_law pc = .ok (.ireturn, 1) → W p l e room_1 s m #[Value.ref b] below meth c H locs cl sl Q (F0 m pc ls [.int out]))
    (J2060 : ∀ {S : lSt} (H : Heap) (locs : List Loc) (ls : Array Slot), True → jn S = some out → g_LS D a (lE a cI cZ cJ S) s H locs → lv_has ls 7 [(0, .ref b), (1, .ref (a 0)), (2, .ref (a 66)), (3, .ref (a 65)), (4, .int i)] → W p l e room_1 s m #[Value.ref b] below meth c H locs (K + 8) (SL + 48) Q (F0 m 2060 ls []))
    (h : f_L_disp N L xs i S jn = some out) {H : Heap} {locs : List Loc} {ls : Array Slot} (hI : g_LS D a (lE a cI cZ cJ S) s H locs) (hl : lv_has ls 7 [(0, .ref b), (1, .ref (a 0)), (2, .ref (a 66)), (3, .ref (a 65)), (4, .int i)]) : W p l e room_1 s m #[Value.ref b] below meth c H locs K SL Q (F0 m 60 ls [.int (xs i.toNatClampNeg &&& 31)]) := by
  have hx := F.1.1
  have hb := F.1.2.1
  unfold f_L_disp at h
  generalize xs i.toNatClampNeg &&& 31 = w at h ⊢
  by_cases c0 : w = 0
  · have h := (if_pos c0).symm.trans h
    refine lv_tableIn (off := 132) (tgt := 192) hx hb dL_law_60 (by rw [c0]; decide) (by rw [c0]; decide) (by rw [c0]; rfl) (by decide) ?_
    exact w_L_case0 F hX hbl hK hSL hq J2060 h hI hl
  have h := (if_neg c0).symm.trans h
  by_cases c1 : w = 1
  · have h := (if_pos c1).symm.trans h
    refine lv_tableIn (off := 212) (tgt := 272) hx hb dL_law_60 (by rw [c1]; decide) (by rw [c1]; decide) (by rw [c1]; rfl) (by decide) ?_
    exact w_L_case1 F hX hbl hK hSL hq J2060 h hI hl
  have h := (if_neg c1).symm.trans h
  by_cases c2 : w = 2
  · have h := (if_pos c2).symm.trans h
    refine lv_tableIn (off := 304) (tgt := 364) hx hb dL_law_60 (by rw [c2]; decide) (by rw [c2]; decide) (by rw [c2]; rfl) (by decide) ?_
    exact w_L_case2 F hX hbl hK hSL hq J2060 h hI hl
  have h := (if_neg c2).symm.trans h
  by_cases c3 : w = 3
  · have h := (if_pos c3).symm.trans h
    refine lv_tableIn (off := 408) (tgt := 468) hx hb dL_law_60 (by rw [c3]; decide) (by rw [c3]; decide) (by rw [c3]; rfl) (by decide) ?_
    exact w_L_case3 F hX hbl hK hSL hq J2060 h hI hl
  have h := (if_neg c3).symm.trans h
  by_cases c4 : w = 4
  · have h := (if_pos c4).symm.trans h
    refine lv_tableIn (off := 476) (tgt := 536) hx hb dL_law_60 (by rw [c4]; decide) (by rw [c4]; decide) (by rw [c4]; rfl) (by decide) ?_
    exact w_L_case4 F hX hbl hK hSL hq J2060 h hI hl
  have h := (if_neg c4).symm.trans h
  by_cases c5 : w = 5
  · have h := (if_pos c5).symm.trans h
    refine lv_tableIn (off := 544) (tgt := 604) hx hb dL_law_60 (by rw [c5]; decide) (by rw [c5]; decide) (by rw [c5]; rfl) (by decide) ?_
    exact w_L_case5 F hX hbl hK hSL hq J2060 h hI hl
  have h := (if_neg c5).symm.trans h
  by_cases c6 : w = 6
  · have h := (if_pos c6).symm.trans h
    refine lv_tableIn (off := 612) (tgt := 672) hx hb dL_law_60 (by rw [c6]; decide) (by rw [c6]; decide) (by rw [c6]; rfl) (by decide) ?_
    exact w_L_case6 F hX hbl hK hSL hq J2060 h hI hl
  have h := (if_neg c6).symm.trans h
  by_cases c7 : w = 7
  · have h := (if_pos c7).symm.trans h
    refine lv_tableIn (off := 680) (tgt := 740) hx hb dL_law_60 (by rw [c7]; decide) (by rw [c7]; decide) (by rw [c7]; rfl) (by decide) ?_
    exact w_L_case7 F hX hbl hK hSL hq J2060 h hI hl
  have h := (if_neg c7).symm.trans h
  by_cases c8 : w = 8
  · have h := (if_pos c8).symm.trans h
    refine lv_tableIn (off := 748) (tgt := 808) hx hb dL_law_60 (by rw [c8]; decide) (by rw [c8]; decide) (by rw [c8]; rfl) (by decide) ?_
    exact w_L_case8 F hX hbl hK hSL hq J2060 h hI hl
  have h := (if_neg c8).symm.trans h
  by_cases c9 : w = 9
  · have h := (if_pos c9).symm.trans h
    refine lv_tableIn (off := 828) (tgt := 888) hx hb dL_law_60 (by rw [c9]; decide) (by rw [c9]; decide) (by rw [c9]; rfl) (by decide) ?_
    exact w_L_case9 F hX hbl hK hSL hq J2060 h hI hl
  have h := (if_neg c9).symm.trans h
  by_cases c10 : w = 10
  · have h := (if_pos c10).symm.trans h
    refine lv_tableIn (off := 919) (tgt := 979) hx hb dL_law_60 (by rw [c10]; decide) (by rw [c10]; decide) (by rw [c10]; rfl) (by decide) ?_
    exact w_L_case10 F hX hbl hK hSL hq J2060 h hI hl
  have h := (if_neg c10).symm.trans h
  by_cases c11 : w = 11
  · have h := (if_pos c11).symm.trans h
    refine lv_tableIn (off := 987) (tgt := 1047) hx hb dL_law_60 (by rw [c11]; decide) (by rw [c11]; decide) (by rw [c11]; rfl) (by decide) ?_
    exact w_L_case11 F hX hbl hK hSL hq J2060 h hI hl
  have h := (if_neg c11).symm.trans h
  by_cases c12 : w = 12
  · have h := (if_pos c12).symm.trans h
    refine lv_tableIn (off := 1043) (tgt := 1103) hx hb dL_law_60 (by rw [c12]; decide) (by rw [c12]; decide) (by rw [c12]; rfl) (by decide) ?_
    exact w_L_case12 F hX hbl hK hSL hq J2060 h hI hl
  have h := (if_neg c12).symm.trans h
  by_cases c13 : w = 13
  · have h := (if_pos c13).symm.trans h
    refine lv_tableIn (off := 1099) (tgt := 1159) hx hb dL_law_60 (by rw [c13]; decide) (by rw [c13]; decide) (by rw [c13]; rfl) (by decide) ?_
    exact w_L_case13 F hX hbl hK hSL hq J2060 h hI hl
  have h := (if_neg c13).symm.trans h
  by_cases c14 : w = 14
  · have h := (if_pos c14).symm.trans h
    refine lv_tableIn (off := 1155) (tgt := 1215) hx hb dL_law_60 (by rw [c14]; decide) (by rw [c14]; decide) (by rw [c14]; rfl) (by decide) ?_
    exact w_L_case14 F hX hbl hK hSL hq J2060 h hI hl
  have h := (if_neg c14).symm.trans h
  by_cases c15 : w = 15
  · have h := (if_pos c15).symm.trans h
    refine lv_tableIn (off := 1223) (tgt := 1283) hx hb dL_law_60 (by rw [c15]; decide) (by rw [c15]; decide) (by rw [c15]; rfl) (by decide) ?_
    exact w_L_case15 F hX hbl hK hSL hq J2060 h hI hl
  have h := (if_neg c15).symm.trans h
  by_cases c16 : w = 16
  · have h := (if_pos c16).symm.trans h
    refine lv_tableIn (off := 1291) (tgt := 1351) hx hb dL_law_60 (by rw [c16]; decide) (by rw [c16]; decide) (by rw [c16]; rfl) (by decide) ?_
    exact w_L_case16 F hX hbl hK hSL hq J2060 h hI hl
  have h := (if_neg c16).symm.trans h
  by_cases c17 : w = 17
  · have h := (if_pos c17).symm.trans h
    refine lv_tableIn (off := 1359) (tgt := 1419) hx hb dL_law_60 (by rw [c17]; decide) (by rw [c17]; decide) (by rw [c17]; rfl) (by decide) ?_
    exact w_L_case17 F hX hbl hK hSL hq J2060 h hI hl
  have h := (if_neg c17).symm.trans h
  by_cases c18 : w = 18
  · have h := (if_pos c18).symm.trans h
    refine lv_tableIn (off := 1434) (tgt := 1494) hx hb dL_law_60 (by rw [c18]; decide) (by rw [c18]; decide) (by rw [c18]; rfl) (by decide) ?_
    exact w_L_case18 F hX hbl hK hSL hq J2060 h hI hl
  have h := (if_neg c18).symm.trans h
  by_cases c19 : w = 19
  · have h := (if_pos c19).symm.trans h
    refine lv_tableIn (off := 1502) (tgt := 1562) hx hb dL_law_60 (by rw [c19]; decide) (by rw [c19]; decide) (by rw [c19]; rfl) (by decide) ?_
    exact w_L_case19 F hX hbl hK hSL hq J2060 h hI hl
  have h := (if_neg c19).symm.trans h
  by_cases c20 : w = 20
  · have h := (if_pos c20).symm.trans h
    refine lv_tableIn (off := 1558) (tgt := 1618) hx hb dL_law_60 (by rw [c20]; decide) (by rw [c20]; decide) (by rw [c20]; rfl) (by decide) ?_
    exact w_L_case20 F hX hbl hK hSL hq J2060 h hI hl
  have h := (if_neg c20).symm.trans h
  by_cases c21 : w = 21
  · have h := (if_pos c21).symm.trans h
    refine lv_tableIn (off := 1614) (tgt := 1674) hx hb dL_law_60 (by rw [c21]; decide) (by rw [c21]; decide) (by rw [c21]; rfl) (by decide) ?_
    exact w_L_case21 F hX hbl hK hSL hq J2060 h hI hl
  have h := (if_neg c21).symm.trans h
  by_cases c22 : w = 22
  · have h := (if_pos c22).symm.trans h
    refine lv_tableIn (off := 1627) (tgt := 1687) hx hb dL_law_60 (by rw [c22]; decide) (by rw [c22]; decide) (by rw [c22]; rfl) (by decide) ?_
    exact w_L_case22 F hX hbl hK hSL hq J2060 h hI hl
  have h := (if_neg c22).symm.trans h
  by_cases c23 : w = 23
  · have h := (if_pos c23).symm.trans h
    refine lv_tableIn (off := 1640) (tgt := 1700) hx hb dL_law_60 (by rw [c23]; decide) (by rw [c23]; decide) (by rw [c23]; rfl) (by decide) ?_
    exact w_L_case23 F hX hbl hK hSL hq J2060 h hI hl
  have h := (if_neg c23).symm.trans h
  by_cases c24 : w = 24
  · have h := (if_pos c24).symm.trans h
    refine lv_tableIn (off := 1696) (tgt := 1756) hx hb dL_law_60 (by rw [c24]; decide) (by rw [c24]; decide) (by rw [c24]; rfl) (by decide) ?_
    exact w_L_case24 F hX hbl hK hSL hq J2060 h hI hl
  have h := (if_neg c24).symm.trans h
  by_cases c25 : w = 25
  · have h := (if_pos c25).symm.trans h
    refine lv_tableIn (off := 1752) (tgt := 1812) hx hb dL_law_60 (by rw [c25]; decide) (by rw [c25]; decide) (by rw [c25]; rfl) (by decide) ?_
    exact w_L_case25 F hX hbl hK hSL hq J2060 h hI hl
  have h := (if_neg c25).symm.trans h
  by_cases c26 : w = 26
  · have h := (if_pos c26).symm.trans h
    refine lv_tableIn (off := 1820) (tgt := 1880) hx hb dL_law_60 (by rw [c26]; decide) (by rw [c26]; decide) (by rw [c26]; rfl) (by decide) ?_
    exact w_L_case26 F hX hbl hK hSL hq J2060 h hI hl
  have h := (if_neg c26).symm.trans h
  by_cases c27 : w = 27
  · have h := (if_pos c27).symm.trans h
    refine lv_tableIn (off := 1876) (tgt := 1936) hx hb dL_law_60 (by rw [c27]; decide) (by rw [c27]; decide) (by rw [c27]; rfl) (by decide) ?_
    exact w_L_case27 F hX hbl hK hSL hq J2060 h hI hl
  have h := (if_neg c27).symm.trans h
  by_cases c28 : w = 28
  · have h := (if_pos c28).symm.trans h
    refine lv_tableIn (off := 1932) (tgt := 1992) hx hb dL_law_60 (by rw [c28]; decide) (by rw [c28]; decide) (by rw [c28]; rfl) (by decide) ?_
    exact w_L_case28 F hX hbl hK hSL hq J2060 h hI hl
  have h := (if_neg c28).symm.trans h
  refine lv_tableOut (tgt := 2060) hx hb dL_law_60 (by have q0 : ¬ w.toInt = 0 := lv_neT c0 rfl; have q1 : ¬ w.toInt = 1 := lv_neT c1 rfl; have q2 : ¬ w.toInt = 2 := lv_neT c2 rfl; have q3 : ¬ w.toInt = 3 := lv_neT c3 rfl; have q4 : ¬ w.toInt = 4 := lv_neT c4 rfl; have q5 : ¬ w.toInt = 5 := lv_neT c5 rfl; have q6 : ¬ w.toInt = 6 := lv_neT c6 rfl; have q7 : ¬ w.toInt = 7 := lv_neT c7 rfl; have q8 : ¬ w.toInt = 8 := lv_neT c8 rfl; have q9 : ¬ w.toInt = 9 := lv_neT c9 rfl; have q10 : ¬ w.toInt = 10 := lv_neT c10 rfl; have q11 : ¬ w.toInt = 11 := lv_neT c11 rfl; have q12 : ¬ w.toInt = 12 := lv_neT c12 rfl; have q13 : ¬ w.toInt = 13 := lv_neT c13 rfl; have q14 : ¬ w.toInt = 14 := lv_neT c14 rfl; have q15 : ¬ w.toInt = 15 := lv_neT c15 rfl; have q16 : ¬ w.toInt = 16 := lv_neT c16 rfl; have q17 : ¬ w.toInt = 17 := lv_neT c17 rfl; have q18 : ¬ w.toInt = 18 := lv_neT c18 rfl; have q19 : ¬ w.toInt = 19 := lv_neT c19 rfl; have q20 : ¬ w.toInt = 20 := lv_neT c20 rfl; have q21 : ¬ w.toInt = 21 := lv_neT c21 rfl; have q22 : ¬ w.toInt = 22 := lv_neT c22 rfl; have q23 : ¬ w.toInt = 23 := lv_neT c23 rfl; have q24 : ¬ w.toInt = 24 := lv_neT c24 rfl; have q25 : ¬ w.toInt = 25 := lv_neT c25 rfl; have q26 : ¬ w.toInt = 26 := lv_neT c26 rfl; have q27 : ¬ w.toInt = 27 := lv_neT c27 rfl; have q28 : ¬ w.toInt = 28 := lv_neT c28 rfl; omega) (by decide) ?_
  refine W.widen (k := K + 8) (n := SL + 48) (by omega) (by omega) ?_
  exact J2060 H locs ls trivial h hI hl
set_option maxRecDepth 100000 in
set_option maxHeartbeats 8000000 in
/-- THE LAW'S LOOP, out of its function -/
theorem law_loop {p : Program} {e : Env} {s : State} {m : MethodId} {below : List Frame} {meth : Method} {c : Code} {l : Launch} {b L : Nat} {xs : Nat → Int32} {D : va_G} {a : Nat → Nat} {cI cZ cJ : ClassId} {sa : Nat → Nat} {Q : State → Prop} {N : Nat} (hL : L ≤ 3074) (F : g_LF p l m c s #[Value.ref b] D a cI cZ cJ sa) (hX : va_X b L xs s s.heap) (hbl : b < s.heap.size)
    (hq : ∀ {S : lSt} (H : Heap) (locs : List Loc) (pc : Nat) (ls : Array Slot) (cl sl : Nat), cl ≤ 601024 → sl ≤ 7293000 → g_LS D a (lE a cI cZ cJ S) s H locs → decode cL_law pc = .ok (.ireturn, 1) → W p l e room_1 s m #[Value.ref b] below meth c H locs cl sl Q (F0 m pc ls [.int 1])) :
    ∀ (n t : Nat) (S : lSt) (H : Heap) (locs : List Loc) (ls : Array Slot), t ≤ 512 → f_L_loop N L xs n (Int32.ofNat (2 + 6 * t)) S = some 1 → g_LS D a (lE a cI cZ cJ S) s H locs → lv_has ls 7 [(0, .ref b), (1, .ref (a 0)), (2, .ref (a 66)), (3, .ref (a 65)), (4, .int (Int32.ofNat (2 + 6 * t)))] → W p l e room_1 s m #[Value.ref b] below meth c H locs (87 + 8 * t) (5804 + 48 * t) Q (F0 m 43 ls []) := by
  have hx := F.1.1
  have hb := F.1.2.1
  have hbA : ¬ (fun q => s.heap.size ≤ q) b := Nat.not_le.mpr hbl
  intro n
  induction n with
  | zero => intro t S H locs ls ht h; cases h
  | succ n ih =>
    intro t S H locs ls ht h hI hl
    unfold f_L_loop at h
    refine lv_iload hx hb dL_law_43 (lv_at hl 4 rfl) ?_
    refine lv_aload_n hx hb dL_law_45 rfl (lv_at hl 0 rfl) ?_
    refine va_slen hx hb hX hbl hbA hI.2 dL_law_46 ?_
    refine lv_bipush (v := 6) hx hb dL_law_47 (by decide) ?_
    refine lv_isub hx hb dL_law_49 ?_
    refine lv_icmp_gt (tgt := 2066) hx hb dL_law_50 (by decide) (fun c1 => ?_) (fun c1 => ?_)
    · refine lv_iconst (v := 1) hx hb dL_law_2066 (by decide) ?_
      exact hq _ _ _ _ _ _ (by omega) (by omega) hI dL_law_2067
    · have h := (if_neg c1).symm.trans h
      have ht2 : 6 * t + 8 ≤ L := by
        rw [Int32.lt_iff_toInt_lt] at c1
        have e1 : (Int32.ofNat L).toInt = L := Int32.toInt_ofNat_of_lt (by omega)
        have e2 : (Int32.ofNat (2 + 6 * t)).toInt = (2 + 6 * t : Nat) := Int32.toInt_ofNat_of_lt (by omega)
        have e3 : (Int32.ofNat L - 6).toInt = L - 6 := by
          rw [Int32.toInt_sub, e1, show (6 : Int32).toInt = 6 from rfl]
          exact Int.bmod_eq_of_le (by omega) (by omega)
        rw [e3, e2] at c1
        omega
      obtain ⟨g1, h⟩ := g_guard h
      refine lv_aload_n hx hb dL_law_53 rfl (lv_at hl 0 rfl) ?_
      refine lv_iload hx hb dL_law_54 (lv_at hl 4 rfl) ?_
      refine va_sld hx hb hX hbl hbA hI.2 g1 dL_law_56 ?_
      refine lv_bipush (v := 31) hx hb dL_law_57 (by decide) ?_
      refine lv_iand hx hb dL_law_59 ?_
      refine law_disp (N := N) (K := 87 + 8 * t) (SL := 5804 + 48 * t) F hX hbl (by omega) (by omega) hq (fun {S1} H locs ls _ h hI hl => ?_) h hI hl
      refine lv_iinc (v := Int32.ofNat (2 + 6 * (t + 1))) (lv' := [(4, .int (Int32.ofNat (2 + 6 * (t + 1)))), (0, .ref b), (1, .ref (a 0)), (2, .ref (a 66)), (3, .ref (a 65))]) hx hb dL_law_2060 hl (k := 4) rfl (by
        rw [show 2 + 6 * (t + 1) = (2 + 6 * t) + 6 by omega, Int32.ofNat_add (2 + 6 * t) 6]; rfl) (by decide) rfl (fun ls hl => ?_)
      refine lv_goto (tgt := 43) hx hb dL_law_2063 (by decide) ?_
      have h : f_L_loop N L xs n (Int32.ofNat (2 + 6 * (t + 1))) S1 = some 1 := by
        rw [show 2 + 6 * (t + 1) = (2 + 6 * t) + 6 by omega, Int32.ofNat_add]; exact h
      refine W.widen (k := 87 + 8 * (t + 1)) (n := 5804 + 48 * (t + 1)) (by omega) (by omega) ?_
      exact ih (t + 1) S1 H locs ls (by omega) h hI (lv_sub hl [1, 2, 3, 4, 0] rfl)
