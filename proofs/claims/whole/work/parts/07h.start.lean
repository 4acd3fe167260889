/-! THE CLAIM OUT OF ONE WALK OF THE LAW'S BODY. Your part is whole_start (and what it stands on); all else here is the same for every law, but numbers. -/
def R_law : String := "SpurlineLaw"
def lw_P (b : Addr) (xs : List Int32) (args : Array Value) (s : State) : Prop := args = #[.ref b] ∧ s.IntsAt b xs ∧ xs.length ≤ 3074 ∧ (Jvm.Cond.and given_1 narrow_1).before args s = true
def lw_Q (_ : Array Value) (s : State) (o : Outcome) (t : State) : Prop := o = .returned (some (.int 1)) ∧ Framed s o t [] 601024 7293000
def lw_Z (below : List Frame) (a : Array Value) (s : State) : State → Prop := fun t => ∃ o, t.status = .running ∧ Ended t below o ∧ lw_Q a s o t
/-- the law's own end, with 1 on the stack, nothing written that was there before, its room as the claim has it -/
theorem lw_ret {p : Program} {l : Launch} {e : Env} {s : State} {m : MethodId} {below : List Frame} {meth : Method} {c : Code} {b : Nat} (hx : p.tables.exec = Jvm.exec) (hb : c.code = code) (hr : meth.sig.returnType = ret) (hlocks : meth.locks = false) {pc : Nat} {H : Heap} {ls : Array Slot} (hdg : decode code pc = .ok (.ireturn, 1)) : W p l e room_1 s m #[Value.ref b] below meth c H [] 601024 7293000 (lw_Z below #[Value.ref b] s) (F0 m pc ls [.int 1]) := by
  intro T hT X
  obtain ⟨fs, hret, hrun, hended, hW, hframe⟩ := X.leave (v := some (.int 1)) (hlocks := hlocks) (fun h => by rw [hr] at h; cases h)
  have hmeth' : T.vm.method? m = some meth := X.method'
  refine ⟨T.setFrames fs, ?_, .returned (some (.int 1)), hrun, hended, rfl, ⟨_, rfl⟩, hW, hframe⟩
  jvm_step X.here [X.here.top, hx, hb, hdg, hmeth', hr, ret, narrow_b1]
  (try refine ⟨rfl, ?_⟩); (try refine ⟨rfl, ?_⟩)
  first | (intro acts; rw [hret _ acts rfl rfl rfl]) | rw [hret _ _ rfl rfl rfl]
  exact Steps.refl _
/-- what holds at the law's entry: the machine, the code, the tables' words (any of lw_tbl by 'hts w (by decide +kernel)'), the script of L ints xs at the cell b, what the Statement gives of the start (any of its parts by flat_of_before) -/
def lw_At (p : Program) (s : State) (m : MethodId) (meth : Method) (c : Code) (b L : Nat) (xs : Nat → Int32) : Prop :=
  p.tables.exec = Jvm.exec ∧ c.code = code ∧ meth.sig.returnType = ret ∧ c.maxLocals = 7 ∧ s.vm.findClass R_law = some m.cls ∧ (∀ w ∈ lw_tbl, w.before #[Value.ref b] s = true) ∧ va_X b L xs s s.heap ∧ b < s.heap.size ∧ meth.locks = false ∧ (Jvm.Cond.and given_1 narrow_1).before #[Value.ref b] s = true
/-! the premises of the start, and the whole walk -/
set_option maxRecDepth 100000 in
theorem lz_V {s : State} {b : Nat} (hts : ∀ w ∈ lw_tbl, w.before #[Value.ref b] s = true) (hgv : (Jvm.Cond.and given_1 narrow_1).before #[Value.ref b] s = true) : ∃ sa : Nat → Nat, gXV sa s := by
  have hs := flat_of_before _ hgv
  obtain ⟨z0, h0s⟩ : ∃ a, vk_R RX9 258 "there is no such cell" a s := by
    have h0 : (Cond.exactly (.string "Spurline" 258) "java/lang/String").before #[Value.ref b] s = true := hs _ (by decide +kernel)
    obtain ⟨a, -, -, -, h1, -⟩ := Cond.exactly_spec h0
    exact ⟨a, vk_R.of (hts _ (List.mem_append_right _ (show _ ∈ tables_1 from List.mem_append_right _ (List.mem_append_left _ (show _ ∈ tables_1_2 from List.mem_of_getElem? (i := 207) (by decide +kernel)))))) h1⟩
  obtain ⟨z1, h1s⟩ : ∃ a, vk_R RX9 269 "there is no such number" a s := by
    have h0 : (Cond.exactly (.string "Spurline" 269) "java/lang/String").before #[Value.ref b] s = true := hs _ (by decide +kernel)
    obtain ⟨a, -, -, -, h1, -⟩ := Cond.exactly_spec h0
    exact ⟨a, vk_R.of (hts _ (List.mem_append_right _ (show _ ∈ tables_1 from List.mem_append_right _ (List.mem_append_right _ (List.mem_append_left _ (show _ ∈ tables_1_3 from List.mem_of_getElem? (i := 98) (by decide +kernel))))))) h1⟩
  obtain ⟨z2, h2s⟩ : ∃ a, vk_R RX9 273 "a value is out of range" a s := by
    have h0 : (Cond.exactly (.string "Spurline" 273) "java/lang/String").before #[Value.ref b] s = true := hs _ (by decide +kernel)
    obtain ⟨a, -, -, -, h1, -⟩ := Cond.exactly_spec h0
    exact ⟨a, vk_R.of (hts _ (List.mem_append_right _ (show _ ∈ tables_1 from List.mem_append_right _ (List.mem_append_right _ (List.mem_append_left _ (show _ ∈ tables_1_3 from List.mem_of_getElem? (i := 6) (by decide +kernel))))))) h1⟩
  obtain ⟨z3, h3s⟩ : ∃ a, vk_R RX9 278 "what was told before rules this call out" a s := by
    have h0 : (Cond.exactly (.string "Spurline" 278) "java/lang/String").before #[Value.ref b] s = true := hs _ (by decide +kernel)
    obtain ⟨a, -, -, -, h1, -⟩ := Cond.exactly_spec h0
    exact ⟨a, vk_R.of (hts _ (List.mem_append_right _ (show _ ∈ tables_1 from List.mem_append_right _ (List.mem_append_right _ (List.mem_append_left _ (show _ ∈ tables_1_3 from List.mem_of_getElem? (i := 68) (by decide +kernel))))))) h1⟩
  exact ⟨fun k => if k = 0 then z0 else if k = 1 then z1 else if k = 2 then z2 else z3, h0s, h1s, h2s, h3s, va_Nw.of rfl (hts _ (List.mem_append_right _ (show _ ∈ tables_1 from List.mem_append_right _ (List.mem_append_left _ (show _ ∈ tables_1_2 from List.mem_of_getElem? (i := 168) (by decide +kernel)))))), va_Nw.of rfl (hts _ (List.mem_append_right _ (show _ ∈ tables_1 from List.mem_append_right _ (List.mem_append_left _ (show _ ∈ tables_1_2 from List.mem_of_getElem? (i := 239) (by decide +kernel)))))), va_Nw.of rfl (hts _ (List.mem_append_right _ (show _ ∈ tables_1 from List.mem_append_right _ (List.mem_append_right _ (List.mem_append_left _ (show _ ∈ tables_1_3 from List.mem_of_getElem? (i := 61) (by decide +kernel))))))), va_Nw.of rfl (hts _ (List.mem_append_right _ (show _ ∈ tables_1 from List.mem_append_right _ (List.mem_append_left _ (show _ ∈ tables_1_2 from List.mem_of_getElem? (i := 170) (by decide +kernel)))))), va_Nw.of rfl (hts _ (List.mem_append_right _ (show _ ∈ tables_1 from List.mem_append_right _ (List.mem_append_left _ (show _ ∈ tables_1_2 from List.mem_of_getElem? (i := 172) (by decide +kernel)))))), va_Nw.of rfl (hts _ (List.mem_append_right _ (show _ ∈ tables_1 from List.mem_append_right _ (List.mem_append_left _ (show _ ∈ tables_1_2 from List.mem_of_getElem? (i := 174) (by decide +kernel))))))⟩
set_option maxRecDepth 100000 in
theorem lz_A {s : State} {b : Nat} (hts : ∀ w ∈ lw_tbl, w.before #[Value.ref b] s = true) (hgv : (Jvm.Cond.and given_1 narrow_1).before #[Value.ref b] s = true) : gXA (fun q => s.heap.size ≤ q) s s.heap := by
  have hs := flat_of_before _ hgv
  have hi : (Cond.initialized "java/lang/Throwable").before #[Value.ref b] s = true := (hts _ (List.mem_append_right _ (show _ ∈ tables_1 from List.mem_append_left _ (show _ ∈ tables_1_1 from List.mem_of_getElem? (i := 13) (by decide +kernel)))))
  exact ⟨vx_Zqof (hts _ (List.mem_append_right _ (show _ ∈ tables_1 from List.mem_append_right _ (List.mem_append_left _ (show _ ∈ tables_1_2 from List.mem_of_getElem? (i := 193) (by decide +kernel)))))) hi (hs _ (by decide +kernel)) (fun a h => Nat.not_le.mpr h), vx_Zqof (hts _ (List.mem_append_right _ (show _ ∈ tables_1 from List.mem_append_right _ (List.mem_append_left _ (show _ ∈ tables_1_2 from List.mem_of_getElem? (i := 195) (by decide +kernel)))))) hi (hs _ (by decide +kernel)) (fun a h => Nat.not_le.mpr h)⟩
set_option maxRecDepth 100000 in
theorem lz_C {s : State} {b : Nat} (hgv : (Jvm.Cond.and given_1 narrow_1).before #[Value.ref b] s = true) : gNC s := by
  have hs := flat_of_before _ hgv
  exact ⟨va_Nc.of (hs _ (by decide +kernel)), va_Nc.of (hs _ (by decide +kernel)), va_Nc.of (hs _ (by decide +kernel)), va_Nc.of (hs _ (by decide +kernel))⟩
theorem lz_arr {s : State} {b : Nat} {ty : FieldType} (h : (Cond.arrayClass ty).before #[Value.ref b] s = true) (hra : ∀ cA, va_RA s cA ty = (s.vm.findClass ("[" ++ ty.toString) = some cA)) : ∃ cA, ArrOfT s cA ty ∧ va_RA s cA ty := by
  obtain ⟨cA, kA, comp, h1, h2, h3⟩ := Cond.arrayClass_spec h
  exact ⟨cA, fun n z => ⟨fun k h => (by cases h), kA, h2, comp, h3⟩, by rw [hra]; exact h1⟩
set_option maxRecDepth 100000 in
theorem lz_K {s : State} {b : Nat} (hts : ∀ w ∈ lw_tbl, w.before #[Value.ref b] s = true) : ∃ (D : va_G) (cI cJ cZ : ClassId), va_K D vwCl [(cI, .int), (cJ, .long), (cZ, .boolean)] s := by
  have hG : ∀ w ∈ gW, w.before #[Value.ref b] s = true := fun w h => hts w (List.mem_filter.mp h).1
  obtain ⟨c0, i0, k0⟩ := u_known (C := RX0) (T := TX0) (N := 5) (n := 5) hG ku_X0 (hG _ kz_X0)
  obtain ⟨c1, i1, k1⟩ := u_known (C := RX1) (T := TX1) (N := 3) (n := 3) hG ku_X1 (hG _ kz_X1)
  obtain ⟨c2, i2, k2⟩ := u_known (C := RX2) (T := TX2) (N := 2) (n := 2) hG ku_X2 (hG _ kz_X2)
  obtain ⟨c3, i3, k3⟩ := u_known (C := RX3) (T := TX3) (N := 9) (n := 9) hG ku_X3 (hG _ kz_X3)
  obtain ⟨c4, i4, k4⟩ := u_known (C := RX4) (T := TX4) (N := 12) (n := 12) hG ku_X4 (hG _ kz_X4)
  obtain ⟨c5, i5, k5⟩ := u_known (C := RX5) (T := TX5) (N := 8) (n := 8) hG ku_X5 (hG _ kz_X5)
  obtain ⟨c6, i6, k6⟩ := u_known (C := RX6) (T := TX6) (N := 5) (n := 5) hG ku_X6 (hG _ kz_X6)
  obtain ⟨c7, i7, k7⟩ := u_known (C := RX7) (T := TX7) (N := 1) (n := 1) hG ku_X7 (hG _ kz_X7)
  obtain ⟨c8, i8, k8⟩ := u_known (C := RX8) (T := TX8) (N := 4) (n := 4) hG ku_X8 (hG _ kz_X8)
  obtain ⟨c9, i9, k9⟩ := u_known (C := RX9) (T := TX9) (N := 8) (n := 8) hG ku_X9 (hG _ kz_X9)
  obtain ⟨c10, i10, k10⟩ := u_known (C := RX10) (T := TX10) (N := 27) (n := 27) hG ku_X10 (hG _ kz_X10)
  obtain ⟨cI, a1, a2⟩ := lz_arr (hG _ ka_int) (fun _ => rfl)
  obtain ⟨cJ, a3, a4⟩ := lz_arr (hG _ ka_long) (fun _ => rfl)
  obtain ⟨cZ, a5, a6⟩ := lz_arr (hG _ ka_boolean) (fun _ => rfl)
  refine ⟨(fun k => if k = 0 then c0 else if k = 1 then c1 else if k = 2 then c2 else if k = 3 then c3 else if k = 4 then c4 else if k = 5 then c5 else if k = 6 then c6 else if k = 7 then c7 else if k = 8 then c8 else if k = 9 then c9 else c10, fun k => if k = 0 then i0 else if k = 1 then i1 else if k = 2 then i2 else if k = 3 then i3 else if k = 4 then i4 else if k = 5 then i5 else if k = 6 then i6 else if k = 7 then i7 else if k = 8 then i8 else if k = 9 then i9 else i10), cI, cJ, cZ, fun k q hq => ?_, fun k q hq => ?_⟩
  · match k, hq with
    | 0, hq => cases hq; exact k0
    | 1, hq => cases hq; exact k1
    | 2, hq => cases hq; exact k2
    | 3, hq => cases hq; exact k3
    | 4, hq => cases hq; exact k4
    | 5, hq => cases hq; exact k5
    | 6, hq => cases hq; exact k6
    | 7, hq => cases hq; exact k7
    | 8, hq => cases hq; exact k8
    | 9, hq => cases hq; exact k9
    | 10, hq => cases hq; exact k10
    | k + 11, hq => simp [vwCl] at hq
  · match k, hq with
    | 0, hq => cases hq; exact ⟨a1, a2⟩
    | 1, hq => cases hq; exact ⟨a3, a4⟩
    | 2, hq => cases hq; exact ⟨a5, a6⟩
    | k + 3, hq => simp at hq
set_option maxRecDepth 100000 in
set_option maxHeartbeats 16000000 in
/-- from the law's entry to its end, out of the law's function -/
theorem start_of {p : Program} {e : Env} {s : State} {m : MethodId} {below : List Frame} {meth : Method} {c : Code} (l : Launch) (hflags : l.flags = flags0) {b L : Nat} {xs : Nat → Int32} (hL : L ≤ 3074) (C0 : lw_At p s m meth c b L xs) {N n : Nat} (hf : f_L_loop N L xs n 2 (S0L (f_L_cell L xs 0) (f_L_cell L xs 1)) = some 1) : W p l e room_1 s m #[Value.ref b] below meth c s.heap [] 0 0 (lw_Z below #[Value.ref b] s) (entryFrame m ([Value.ref b] : List Value).toArray 7) := by
  obtain ⟨hx, hb, hr, hml, hown, hts, hX, hbl, hlocks, hgv⟩ := id C0
  have hG : ∀ w ∈ gW, w.before #[Value.ref b] s = true := fun w h => hts w (List.mem_filter.mp h).1
  obtain ⟨sa, hV⟩ := lz_V hts hgv
  have hXA := lz_A hts hgv
  have hNC := lz_C hgv
  obtain ⟨D, cI, cJ, cZ, hK⟩ := lz_K hts
  have hlt : l.stackTraces = false := by
    unfold Launch.stackTraces
    rw [hflags]
    decide +kernel
  have hNest : gNest s := ⟨va_Nw.of rfl (hts _ (List.mem_append_right _ (show _ ∈ tables_1 from List.mem_append_left _ (show _ ∈ tables_1_1 from List.mem_of_getElem? (i := 117) (by decide +kernel))))), va_Nw.of rfl (hts _ (List.mem_append_right _ (show _ ∈ tables_1 from List.mem_append_left _ (show _ ∈ tables_1_1 from List.mem_of_getElem? (i := 135) (by decide +kernel))))), va_Nw.of rfl (hts _ (List.mem_append_right _ (show _ ∈ tables_1 from List.mem_append_left _ (show _ ∈ tables_1_1 from List.mem_of_getElem? (i := 195) (by decide +kernel)))))⟩
  have F : CallFix p m c cL_law 7 s #[Value.ref b] gW RL := ⟨hx, hb, hml, hown, hG⟩
  have hA : ∀ q : Nat, s.heap.size ≤ q → (fun q : Nat => s.heap.size ≤ q) q := fun _ h => h
  have hbA : ¬ (fun q : Nat => s.heap.size ≤ q) b := Nat.not_le.mpr hbl
  have hS : va_S (fun q : Nat => s.heap.size ≤ q) s.heap s.heap [] := va_S.rf
  have hP : va_P D vwCl [] s.heap := fun k q h => by simp at h
  have hD : va_D (fun q : Nat => s.heap.size ≤ q) [] := ⟨fun i j p q h => by simp at h, fun k q h => by simp at h⟩
  obtain ⟨z, hz0⟩ : ∃ z, s.heap.size = z := ⟨_, rfl⟩
  have hl := lv_entry ([.ref b]) (n := 7) (Nat.le_of_ble_eq_true rfl)
  rw [lg_entry_eq]
  generalize (lg_sl ([.ref b]) ++ List.replicate (7 - (lg_sl ([.ref b])).length) Slot.unset).toArray = ls at hl ⊢
  have hl : lv_has ls 7 [(0, .ref b)] := hl
  refine g_tnew (ci := 9) F hK hP hD hS hA (fs := [.null, .null, .null, .null, .null, .null, .null, .null]) (k := z) hz0 ku_X9 tyX9_ok kl_L_8 kz_X9 kn_X9 rfl (fun j hj => by rcases (show j = 0 ∨ j = 1 ∨ j = 2 ∨ j = 3 ∨ j = 4 ∨ j = 5 ∨ j = 6 ∨ j = 7 by omega) with rfl | rfl | rfl | rfl | rfl | rfl | rfl | rfl <;> rfl) (Nat.le_of_ble_eq_true rfl) (Nat.le_of_ble_eq_true rfl) dL_law_0 (fun H hP hD hS hz => ?_)
  have hP : va_P D vwCl [(z, .inr (9, [.null, .null, .null, .null, .null, .null, .null, .null]))] H := hP
  have hD : va_D (fun q : Nat => s.heap.size ≤ q) [(z, .inr (9, [.null, .null, .null, .null, .null, .null, .null, .null]))] := hD
  refine lv_dup hx hb dL_law_3 rfl ?_
  refine lv_aload_n hx hb dL_law_4 rfl (lv_at hl 0 rfl) ?_
  refine lv_iconst (v := 0) hx hb dL_law_5 (by decide) ?_
  refine g_lcell (rest := [.ref z, .ref z]) F hX hbl hbA hL hP hS (by decide) hl.1 ⟨(Nat.le_of_ble_eq_true rfl), (Nat.le_of_ble_eq_true rfl)⟩ (Nat.le_of_ble_eq_true rfl) ⟨(Nat.le_of_ble_eq_true rfl), (Nat.le_of_ble_eq_true rfl)⟩ dL_law_6 km_L_103 (fun H locs hP hS hz2 => ?_)
  have hz := hz2.trans hz
  refine lv_aload_n hx hb dL_law_9 rfl (lv_at hl 0 rfl) ?_
  refine lv_iconst (v := 1) hx hb dL_law_10 (by decide) ?_
  refine g_lcell (rest := [.int (f_L_cell L xs 0), .ref z, .ref z]) F hX hbl hbA hL hP hS (by decide) hl.1 ⟨(Nat.le_of_ble_eq_true rfl), (Nat.le_of_ble_eq_true rfl)⟩ (Nat.le_of_ble_eq_true rfl) ⟨(Nat.le_of_ble_eq_true rfl), (Nat.le_of_ble_eq_true rfl)⟩ dL_law_11 km_L_103 (fun H locs hP hS hz2 => ?_)
  have hz := hz2.trans hz
  refine g_callCX (As := [.int (f_L_cell L xs 0), .int (f_L_cell L xs 1)]) (rest := [.ref z]) (e0 := (z, .inr (9, [.null, .null, .null, .null, .null, .null, .null, .null]))) (w1 := [(z, .inr (9, [.ref (z + 1), .ref (z + 6), .ref (z + 13), .ref (z + 20), .ref (z + 25), .ref (z + 30), .ref (z + 39), .ref (z + 54)])), ((z + 1), .inr (8, [.int (f_X9_sideWithinLimits (f_L_cell L xs 0)), .int (f_X9_sideWithinLimits (f_L_cell L xs 1)), .ref (z + 2), .ref (z + 4)])), ((z + 2), .inr (7, [.ref (z + 3)])), ((z + 3), .inl (cI, 144, .inl (fun _ => 0))), ((z + 4), .inr (7, [.ref (z + 5)])), ((z + 5), .inl (cI, 144, .inl (fun _ => 0))), ((z + 6), .inr (0, [.ref (z + 1), .ref (z + 7), .ref (z + 9), .ref (z + 11), .int 0])), ((z + 7), .inr (7, [.ref (z + 8)])), ((z + 8), .inl (cI, 288, .inl (fun _ => 0))), ((z + 9), .inr (7, [.ref (z + 10)])), ((z + 10), .inl (cI, 288, .inl (fun _ => 0))), ((z + 11), .inr (7, [.ref (z + 12)])), ((z + 12), .inl (cI, 288, .inl (fun _ => 0))), ((z + 13), .inr (6, [.ref (z + 1), .ref (z + 14), .ref (z + 16), .ref (z + 18), .int 0])), ((z + 14), .inr (7, [.ref (z + 15)])), ((z + 15), .inl (cI, 144, .inl (fun _ => 0))), ((z + 16), .inr (7, [.ref (z + 17)])), ((z + 17), .inl (cI, 144, .inl (fun _ => 0))), ((z + 18), .inr (7, [.ref (z + 19)])), ((z + 19), .inl (cI, 144, .inl (fun _ => 0))), ((z + 20), .inr (1, [.ref (z + 21), .ref (z + 23), .int 0])), ((z + 21), .inr (7, [.ref (z + 22)])), ((z + 22), .inl (cI, 12, .inl (fun _ => 0))), ((z + 23), .inr (7, [.ref (z + 24)])), ((z + 24), .inl (cI, 12, .inl (fun _ => 0))), ((z + 25), .inr (2, [.ref (z + 26), .ref (z + 28)])), ((z + 26), .inr (7, [.ref (z + 27)])), ((z + 27), .inl (cI, 30, .inl (fun _ => 0))), ((z + 28), .inr (7, [.ref (z + 29)])), ((z + 29), .inl (cI, 5, .inl (fun _ => 0))), ((z + 30), .inr (4, [.ref (z + 13), .ref (z + 20), .ref (z + 25), .ref (z + 31), .ref (z + 33), .ref (z + 35), .ref (z + 37), .int 0, .int 0, .int 0, .int 0, .int 0])), ((z + 31), .inr (7, [.ref (z + 32)])), ((z + 32), .inl (cI, 144, .inl (fun _ => 0))), ((z + 33), .inr (7, [.ref (z + 34)])), ((z + 34), .inl (cI, 144, .inl (fun _ => 0))), ((z + 35), .inr (7, [.ref (z + 36)])), ((z + 36), .inl (cI, 6, .inl (fun _ => 0))), ((z + 37), .inr (7, [.ref (z + 38)])), ((z + 38), .inl (cI, 6, .inl (fun _ => 0))), ((z + 39), .inr (3, [.ref (z + 40), .ref (z + 42), .ref (z + 44), .ref (z + 46), .ref (z + 48), .ref (z + 50), .ref (z + 52), .int 0, .int 0])), ((z + 40), .inr (7, [.ref (z + 41)])), ((z + 41), .inl (cI, 24, .inl (fun _ => 0))), ((z + 42), .inr (7, [.ref (z + 43)])), ((z + 43), .inl (cI, 24, .inl (fun _ => 0))), ((z + 44), .inr (7, [.ref (z + 45)])), ((z + 45), .inl (cI, 24, .inl (fun _ => 0))), ((z + 46), .inr (7, [.ref (z + 47)])), ((z + 47), .inl (cI, 24, .inl (fun _ => 0))), ((z + 48), .inr (7, [.ref (z + 49)])), ((z + 49), .inl (cI, 24, .inl (fun _ => 0))), ((z + 50), .inr (7, [.ref (z + 51)])), ((z + 51), .inl (cI, 480, .inl (fun _ => 0))), ((z + 52), .inr (7, [.ref (z + 53)])), ((z + 53), .inl (cI, 480, .inl (fun _ => 0))), ((z + 54), .inr (5, [.ref (z + 20), .ref (z + 25), .ref (z + 39), .ref (z + 55), .ref (z + 57), .ref (z + 59), .ref (z + 61), .ref (z + 63)])), ((z + 55), .inr (7, [.ref (z + 56)])), ((z + 56), .inl (cI, 144, .inl (fun _ => 0))), ((z + 57), .inr (7, [.ref (z + 58)])), ((z + 58), .inl (cI, 144, .inl (fun _ => 0))), ((z + 59), .inr (7, [.ref (z + 60)])), ((z + 60), .inl (cI, 24, .inl (fun _ => 0))), ((z + 61), .inr (7, [.ref (z + 62)])), ((z + 62), .inl (cI, 24, .inl (fun _ => 0))), ((z + 63), .inr (7, [.ref (z + 64)])), ((z + 64), .inl (cI, 24, .inl (fun _ => 0)))]) F hK hNest hP hD hS hA hz (c_X9_init l D cI z (z + 1) (f_L_cell L xs 0) (f_L_cell L xs 1)) rfl kb_X9_init km_L_108 ⟨(Nat.le_of_ble_eq_true rfl), (Nat.le_of_ble_eq_true rfl), rfl, rfl⟩ hl.1 rfl (Nat.le_of_ble_eq_true rfl) ⟨(Nat.le_of_ble_eq_true rfl), (Nat.le_of_ble_eq_true rfl)⟩ dL_law_14 (fun H locs hP hD hS hz => ?_)
  have hz : H.size = z + 65 := hz
  refine lv_astore_n (lv' := [(1, .ref z), (0, .ref b)]) hx hb dL_law_17 rfl hl (by decide) rfl (fun ls hl => ?_)
  refine g_tnew (ci := 10) F hK hP hD hS hA (fs := [.int 0, .int 0, .null, .null, .null, .null, .int 0, .null, .null, .null, .null, .null, .null, .null, .null, .int 0, .int 0, .null, .null, .null, .null, .null, .int 0, .null, .null, .null, .int 0]) (k := z + 65) hz ku_X10 tyX10_ok kl_L_111 kz_X10 kn_X10 rfl (fun j hj => by rcases (show j = 0 ∨ j = 1 ∨ j = 2 ∨ j = 3 ∨ j = 4 ∨ j = 5 ∨ j = 6 ∨ j = 7 ∨ j = 8 ∨ j = 9 ∨ j = 10 ∨ j = 11 ∨ j = 12 ∨ j = 13 ∨ j = 14 ∨ j = 15 ∨ j = 16 ∨ j = 17 ∨ j = 18 ∨ j = 19 ∨ j = 20 ∨ j = 21 ∨ j = 22 ∨ j = 23 ∨ j = 24 ∨ j = 25 ∨ j = 26 by omega) with rfl | rfl | rfl | rfl | rfl | rfl | rfl | rfl | rfl | rfl | rfl | rfl | rfl | rfl | rfl | rfl | rfl | rfl | rfl | rfl | rfl | rfl | rfl | rfl | rfl | rfl | rfl <;> rfl) (Nat.le_of_ble_eq_true rfl) (Nat.le_of_ble_eq_true rfl) dL_law_18 (fun H hP hD hS hz => ?_)
  refine lv_dup hx hb dL_law_21 rfl ?_
  refine lv_aload_n hx hb dL_law_22 rfl (lv_at hl 1 rfl) ?_
  refine lv_iconst (v := 0) hx hb dL_law_23 (by decide) ?_
  refine g_lcell (rest := [.ref (z + 65), .ref (z + 65)]) F hX hbl hbA hL hP hS (by decide) hl.1 ⟨(Nat.le_of_ble_eq_true rfl), (Nat.le_of_ble_eq_true rfl)⟩ (Nat.le_of_ble_eq_true rfl) ⟨(Nat.le_of_ble_eq_true rfl), (Nat.le_of_ble_eq_true rfl)⟩ dL_law_24 km_L_103 (fun H locs hP hS hz2 => ?_)
  have hz := hz2.trans hz
  refine lv_aload_n hx hb dL_law_27 rfl (lv_at hl 1 rfl) ?_
  refine lv_iconst (v := 1) hx hb dL_law_28 (by decide) ?_
  refine g_lcell (rest := [.int (f_L_cell L xs 0), .ref (z + 65), .ref (z + 65)]) F hX hbl hbA hL hP hS (by decide) hl.1 ⟨(Nat.le_of_ble_eq_true rfl), (Nat.le_of_ble_eq_true rfl)⟩ (Nat.le_of_ble_eq_true rfl) ⟨(Nat.le_of_ble_eq_true rfl), (Nat.le_of_ble_eq_true rfl)⟩ dL_law_29 km_L_103 (fun H locs hP hS hz2 => ?_)
  have hz := hz2.trans hz
  refine g_callC (As := [.int (f_L_cell L xs 0), .int (f_L_cell L xs 1)]) (rest := [.ref (z + 65)]) (e0 := (z + 65, .inr (10, [.int 0, .int 0, .null, .null, .null, .null, .int 0, .null, .null, .null, .null, .null, .null, .null, .null, .int 0, .int 0, .null, .null, .null, .null, .null, .int 0, .null, .null, .null, .int 0]))) (wr := [(z, .inr (9, [.ref (z + 1), .ref (z + 6), .ref (z + 13), .ref (z + 20), .ref (z + 25), .ref (z + 30), .ref (z + 39), .ref (z + 54)])), ((z + 1), .inr (8, [.int (f_X9_sideWithinLimits (f_L_cell L xs 0)), .int (f_X9_sideWithinLimits (f_L_cell L xs 1)), .ref (z + 2), .ref (z + 4)])), ((z + 2), .inr (7, [.ref (z + 3)])), ((z + 3), .inl (cI, 144, .inl (fun _ => 0))), ((z + 4), .inr (7, [.ref (z + 5)])), ((z + 5), .inl (cI, 144, .inl (fun _ => 0))), ((z + 6), .inr (0, [.ref (z + 1), .ref (z + 7), .ref (z + 9), .ref (z + 11), .int 0])), ((z + 7), .inr (7, [.ref (z + 8)])), ((z + 8), .inl (cI, 288, .inl (fun _ => 0))), ((z + 9), .inr (7, [.ref (z + 10)])), ((z + 10), .inl (cI, 288, .inl (fun _ => 0))), ((z + 11), .inr (7, [.ref (z + 12)])), ((z + 12), .inl (cI, 288, .inl (fun _ => 0))), ((z + 13), .inr (6, [.ref (z + 1), .ref (z + 14), .ref (z + 16), .ref (z + 18), .int 0])), ((z + 14), .inr (7, [.ref (z + 15)])), ((z + 15), .inl (cI, 144, .inl (fun _ => 0))), ((z + 16), .inr (7, [.ref (z + 17)])), ((z + 17), .inl (cI, 144, .inl (fun _ => 0))), ((z + 18), .inr (7, [.ref (z + 19)])), ((z + 19), .inl (cI, 144, .inl (fun _ => 0))), ((z + 20), .inr (1, [.ref (z + 21), .ref (z + 23), .int 0])), ((z + 21), .inr (7, [.ref (z + 22)])), ((z + 22), .inl (cI, 12, .inl (fun _ => 0))), ((z + 23), .inr (7, [.ref (z + 24)])), ((z + 24), .inl (cI, 12, .inl (fun _ => 0))), ((z + 25), .inr (2, [.ref (z + 26), .ref (z + 28)])), ((z + 26), .inr (7, [.ref (z + 27)])), ((z + 27), .inl (cI, 30, .inl (fun _ => 0))), ((z + 28), .inr (7, [.ref (z + 29)])), ((z + 29), .inl (cI, 5, .inl (fun _ => 0))), ((z + 30), .inr (4, [.ref (z + 13), .ref (z + 20), .ref (z + 25), .ref (z + 31), .ref (z + 33), .ref (z + 35), .ref (z + 37), .int 0, .int 0, .int 0, .int 0, .int 0])), ((z + 31), .inr (7, [.ref (z + 32)])), ((z + 32), .inl (cI, 144, .inl (fun _ => 0))), ((z + 33), .inr (7, [.ref (z + 34)])), ((z + 34), .inl (cI, 144, .inl (fun _ => 0))), ((z + 35), .inr (7, [.ref (z + 36)])), ((z + 36), .inl (cI, 6, .inl (fun _ => 0))), ((z + 37), .inr (7, [.ref (z + 38)])), ((z + 38), .inl (cI, 6, .inl (fun _ => 0))), ((z + 39), .inr (3, [.ref (z + 40), .ref (z + 42), .ref (z + 44), .ref (z + 46), .ref (z + 48), .ref (z + 50), .ref (z + 52), .int 0, .int 0])), ((z + 40), .inr (7, [.ref (z + 41)])), ((z + 41), .inl (cI, 24, .inl (fun _ => 0))), ((z + 42), .inr (7, [.ref (z + 43)])), ((z + 43), .inl (cI, 24, .inl (fun _ => 0))), ((z + 44), .inr (7, [.ref (z + 45)])), ((z + 45), .inl (cI, 24, .inl (fun _ => 0))), ((z + 46), .inr (7, [.ref (z + 47)])), ((z + 47), .inl (cI, 24, .inl (fun _ => 0))), ((z + 48), .inr (7, [.ref (z + 49)])), ((z + 49), .inl (cI, 24, .inl (fun _ => 0))), ((z + 50), .inr (7, [.ref (z + 51)])), ((z + 51), .inl (cI, 480, .inl (fun _ => 0))), ((z + 52), .inr (7, [.ref (z + 53)])), ((z + 53), .inl (cI, 480, .inl (fun _ => 0))), ((z + 54), .inr (5, [.ref (z + 20), .ref (z + 25), .ref (z + 39), .ref (z + 55), .ref (z + 57), .ref (z + 59), .ref (z + 61), .ref (z + 63)])), ((z + 55), .inr (7, [.ref (z + 56)])), ((z + 56), .inl (cI, 144, .inl (fun _ => 0))), ((z + 57), .inr (7, [.ref (z + 58)])), ((z + 58), .inl (cI, 144, .inl (fun _ => 0))), ((z + 59), .inr (7, [.ref (z + 60)])), ((z + 60), .inl (cI, 24, .inl (fun _ => 0))), ((z + 61), .inr (7, [.ref (z + 62)])), ((z + 62), .inl (cI, 24, .inl (fun _ => 0))), ((z + 63), .inr (7, [.ref (z + 64)])), ((z + 64), .inl (cI, 24, .inl (fun _ => 0)))]) (w1 := [((z + 65), .inr (10, [.int (mside (f_L_cell L xs 0)), .int (mside (f_L_cell L xs 1)), .ref (z + 66), .ref (z + 67), .ref (z + 68), .ref (z + 69), .int 0, .ref (z + 70), .ref (z + 71), .ref (z + 72), .ref (z + 73), .ref (z + 74), .ref (z + 75), .ref (z + 76), .ref (z + 77), .int 0, .int 0, .ref (z + 78), .ref (z + 79), .ref (z + 80), .ref (z + 81), .ref (z + 82), .int 0, .ref (z + 83), .ref (z + 84), .ref (z + 85), .int 0])), ((z + 66), .inl (cI, 144, .inl (fun _ => 0))), ((z + 67), .inl (cI, 144, .inl (fun _ => 0))), ((z + 68), .inl (cI, 12, .inl (fun _ => 0))), ((z + 69), .inl (cZ, 12, .inl (fun _ => 0))), ((z + 70), .inl (cI, 30, .inl (fun _ => 0))), ((z + 71), .inl (cI, 5, .inl (fun _ => 0))), ((z + 72), .inl (cI, 24, .inl (fun _ => 0))), ((z + 73), .inl (cI, 24, .inl (fun _ => 0))), ((z + 74), .inl (cI, 24, .inl (gneg 24))), ((z + 75), .inl (cI, 480, .inl (fun _ => 0))), ((z + 76), .inl (cI, 480, .inl (fun _ => 0))), ((z + 77), .inl (cI, 24, .inl (fun _ => 0))), ((z + 78), .inl (cI, 288, .inl (fun _ => 0))), ((z + 79), .inl (cI, 288, .inl (fun _ => 0))), ((z + 80), .inl (cI, 144, .inl (fun _ => 0))), ((z + 81), .inl (cI, 144, .inl (fun _ => 0))), ((z + 82), .inl (cI, 6, .inl (fun _ => 0))), ((z + 83), .inl (cI, 24, .inl (fun _ => 0))), ((z + 84), .inl (cI, 6, .inl (fun _ => 0))), ((z + 85), .inl (cI, 6, .inl (fun _ => 0)))]) F (hK.sub (tys' := [(cI, .int), (cZ, .boolean)]) [0, 2] rfl) hP hD hS hA hz 65 [0, 1, 2, 3, 4, 5, 6, 7, 8, 9, 10, 11, 12, 13, 14, 15, 16, 17, 18, 19, 20, 21, 22, 23, 24, 25, 26, 27, 28, 29, 30, 31, 32, 33, 34, 35, 36, 37, 38, 39, 40, 41, 42, 43, 44, 45, 46, 47, 48, 49, 50, 51, 52, 53, 54, 55, 56, 57, 58, 59, 60, 61, 62, 63, 64] rfl rfl (by decide) (by decide) (c_X10_init l D cI cZ (z + 65) (z + 66) (f_L_cell L xs 0) (f_L_cell L xs 1)) kb_X10_init rfl ki_X10_init km_L_113 ⟨(Nat.le_of_ble_eq_true rfl), (Nat.le_of_ble_eq_true rfl), rfl, rfl⟩ hl.1 rfl (Nat.le_of_ble_eq_true rfl) ⟨(Nat.le_of_ble_eq_true rfl), (Nat.le_of_ble_eq_true rfl)⟩ dL_law_32 (fun H locs hP hD hS hz => ?_)
  have hz : H.size = z + 86 := hz
  refine lv_astore_n (lv' := [(2, .ref (z + 65)), (1, .ref z), (0, .ref b)]) hx hb dL_law_35 rfl hl (by decide) rfl (fun ls hl => ?_)
  refine lv_iconst (v := 1) hx hb dL_law_36 (by decide) ?_
  refine g_tnewa F hK hP hD hS hA (atype := .long) (ty := .long) (N' := 1) (a0 := (1, .inr (.inl (fun _ => 0)))) (k := z + 86) ka_long rfl (fun _ => rfl) 1 rfl hz (fun _ => rfl) (by decide) (by decide) (by decide) (Nat.le_of_ble_eq_true rfl) (Nat.le_of_ble_eq_true rfl) dL_law_37 (fun H hP hD hS hz => ?_)
  refine lv_astore_n (lv' := [(3, .ref (z + 86)), (2, .ref (z + 65)), (1, .ref z), (0, .ref b)]) hx hb dL_law_39 rfl hl (by decide) rfl (fun ls hl => ?_)
  refine lv_iconst (v := 2) hx hb dL_law_40 (by decide) ?_
  refine lv_istore (lv' := [(4, .int 2), (3, .ref (z + 86)), (2, .ref (z + 65)), (1, .ref z), (0, .ref b)]) hx hb dL_law_41 hl (by decide) rfl (fun ls hl => ?_)
  have hP : va_P D vwCl (g_wl 87 (aL z) (lE (aL z) cI cZ cJ (S0L (f_L_cell L xs 0) (f_L_cell L xs 1)))) H := hP.sub [0, 1, 6, 13, 20, 25, 30, 39, 54, 2, 4, 7, 9, 11, 14, 16, 18, 21, 23, 26, 28, 31, 33, 35, 37, 40, 42, 44, 46, 48, 50, 52, 55, 57, 59, 61, 63, 3, 5, 8, 10, 12, 15, 17, 19, 22, 24, 27, 29, 32, 34, 36, 38, 41, 43, 45, 47, 49, 51, 53, 56, 58, 60, 62, 64, 86, 65, 66, 67, 68, 69, 70, 71, 72, 73, 74, 75, 76, 77, 78, 79, 80, 81, 82, 83, 84, 85] rfl
  have FL : g_LF p l m c s #[Value.ref b] D (aL z) cI cZ cJ sa := ⟨F, hK, aL_inj z, fun k _ => by rw [hz0]; exact Nat.le_add_right z _, hV, hXA, hNC, hlt⟩
  refine W.widen (k := 87 + 8 * 0) (n := 5804 + 48 * 0) (Nat.le_of_ble_eq_true rfl) (Nat.le_of_ble_eq_true rfl) ?_
  refine law_loop (N := N) hL FL hX hbl (fun {S} H locs pc ls cl sl h1 h2 hI hd => ?_) n 0 (S0L (f_L_cell L xs 0) (f_L_cell L xs 1)) H locs ls (Nat.zero_le _) hf ⟨hP, hS⟩ (lv_sub hl [4, 3, 2, 1, 0] rfl)
  refine va_forget (fun q hq => hI.2.2.2 q hq) ?_
  refine W.widen (k := 601024) (n := 7293000) h1 h2 ?_
  exact lw_ret hx hb hr hlocks hd
