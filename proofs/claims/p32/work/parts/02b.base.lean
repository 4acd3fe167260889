/-! the walk's words over a world of numbered cells -/
abbrev gSt : Type := (Nat → Nat → Int32) × (Nat → Int32)
def g_sa (σ : gSt) (r : Nat) (f : Nat → Int32) : gSt := (fun j => if j = r then f else σ.1 j, σ.2)
def g_sf (σ : gSt) (k : Nat) (x : Int32) : gSt := (σ.1, fun j => if j = k then x else σ.2 j)
def g_wl (n : Nat) (a : Nat → Nat) (E : Nat → va_E) : va_W := (List.range n).map (fun k => (a k, E k))
theorem g_wl_at {n : Nat} {a : Nat → Nat} {E : Nat → va_E} {k : Nat} (h : k < n) : (g_wl n a E)[k]? = some (a k, E k) := by
  simp [g_wl, List.getElem?_map, List.getElem?_range h]
theorem g_wl_len {n : Nat} {a : Nat → Nat} {E : Nat → va_E} : (g_wl n a E).length = n := by simp [g_wl]
theorem g_wl_inv {n : Nat} {a : Nat → Nat} {E : Nat → va_E} {k : Nat} {q : Nat × va_E} (h : (g_wl n a E)[k]? = some q) : k < n ∧ q = (a k, E k) := by
  rcases Nat.lt_or_ge k n with hk | hk
  · rw [g_wl_at hk] at h
    exact ⟨hk, (Option.some.inj h).symm⟩
  · rw [List.getElem?_eq_none (by rw [g_wl_len]; exact hk)] at h
    cases h
theorem g_wl_set {n : Nat} {a : Nat → Nat} {E E' : Nat → va_E} {k : Nat} {e : va_E} (hk : k < n) (h1 : E' k = e) (h2 : ∀ j, j < n → j ≠ k → E' j = E j) : (g_wl n a E).set k (a k, e) = g_wl n a E' := by
  apply List.ext_getElem?
  intro j
  rw [List.getElem?_set]
  by_cases hj : k = j
  · subst hj
    rw [if_pos rfl, if_pos (by rw [g_wl_len]; exact hk), g_wl_at hk, h1]
  · rw [if_neg hj]
    rcases Nat.lt_or_ge j n with h | h
    · rw [g_wl_at h, g_wl_at h, h2 j h (fun q => hj q.symm)]
    · rw [List.getElem?_eq_none (by rw [g_wl_len]; exact h), List.getElem?_eq_none (by rw [g_wl_len]; exact h)]
def g_Inj (n : Nat) (a : Nat → Nat) : Prop := ∀ i j, i < n → j < n → a i = a j → i = j
def g_Own (n : Nat) (a : Nat → Nat) : Nat → Prop := fun q => ∃ k, k < n ∧ q = a k
theorem g_D {n : Nat} {a : Nat → Nat} {E : Nat → va_E} {A : Nat → Prop} (hj : g_Inj n a) (hA : ∀ k, k < n → A (a k)) : va_D A (g_wl n a E) := by
  refine ⟨fun i j p q hp hq hpq => ?_, fun k q hk => ?_⟩
  · obtain ⟨hi, rfl⟩ := g_wl_inv hp
    obtain ⟨hj', rfl⟩ := g_wl_inv hq
    exact hj i j hi hj' hpq
  · obtain ⟨h, rfl⟩ := g_wl_inv hk
    exact hA k h
theorem g_Do {n : Nat} {a : Nat → Nat} {E : Nat → va_E} (hj : g_Inj n a) : va_D (g_Own n a) (g_wl n a E) := g_D hj (fun k h => ⟨k, h, rfl⟩)
/-- the world of a walk, and what stayed -/
def g_S (n : Nat) (D : va_G) (a : Nat → Nat) (E : Nat → va_E) (H0 H : Heap) (locs : List Loc) : Prop := va_P D vwCl (g_wl n a E) H ∧ va_S (g_Own n a) H0 H locs
/-- what is fixed in a walk -/
def g_F (p : Program) (m : MethodId) (c : Code) (cc : ByteArray) (nL : Nat) (s : State) (args : Array Value) (own : String) (D : va_G) (tys : List (ClassId × FieldType)) (n : Nat) (a : Nat → Nat) : Prop := CallFix p m c cc nL s args gW own ∧ va_K D vwCl tys s ∧ g_Inj n a
/-- a loop with a fuel, a join: opaque in a walk -/
def gLoop {α T : Type} (b : (α → Option T) → α → Option T) : Nat → α → Option T
  | 0, _ => none
  | n + 1, x => b (gLoop b n) x
def gJoin {α T : Type} (k : α → T) (t : (α → T) → T) : T := t k
theorem gLoop_in {α T : Type} {b : (α → Option T) → α → Option T} {n : Nat} {x : α} {r : Option T} (h : gLoop b n x = r) : ∃ lp : Nat → α → Option T, (∀ x, lp 0 x = none) ∧ (∀ n x, lp (n + 1) x = b (lp n) x) ∧ lp n x = r := ⟨gLoop b, fun _ => rfl, fun _ _ => rfl, h⟩
theorem gJoin_in {α T : Type} {k : α → T} {t : (α → T) → T} {r : T} (h : gJoin k t = r) : ∃ j : α → T, j = k ∧ t j = r := ⟨k, rfl, h⟩
theorem gBind_in {α T : Type} {o : Option α} {k : α → Option T} {r : T} (h : o.bind k = some r) : ∃ v, o = some v ∧ k v = some r := by
  cases o with
  | none => cases h
  | some v => exact ⟨v, rfl, h⟩
def g_Pc (n : Nat) (D : va_G) (a : Nat → Nat) (E : Nat → va_E) (tys : List (ClassId × FieldType)) (av : List Value) : Array Value → State → Prop := va_Pc av (fun U => va_P D vwCl (g_wl n a E) U.heap ∧ va_K D vwCl tys U)
def g_Qi (n : Nat) (D : va_G) (a : Nat → Nat) (E' : Nat → va_E) (r : Int32) : Array Value → State → Outcome → State → Prop := va_Qi (fun (r1 : Int32) (_ : Unit) => r1 = r) (fun (_ : Unit) t => va_P D vwCl (g_wl n a E') t.heap) (g_Own n a)
def g_Qv (n : Nat) (D : va_G) (a : Nat → Nat) (E' : Nat → va_E) : Array Value → State → Outcome → State → Prop := va_Qv (fun (_ : Unit) => True) (fun (_ : Unit) t => va_P D vwCl (g_wl n a E') t.heap) (g_Own n a)
theorem g_blind {n : Nat} {D : va_G} {a : Nat → Nat} {E : Nat → va_E} {tys : List (ClassId × FieldType)} {av : List Value} : FrameBlind (g_Pc n D a E tys av) := fun aa U g mk q => ⟨q.1, q.2.1, va_K.moved (u := U) (U := U.calling g mk aa) (Vm.Alike.refl U.vm) q.2.2⟩
/-- a callee's words -/
def g_CB (y : MethodName) (bytes : ByteArray) (maxL : Nat) (ret : Option FieldType) (nn : Nat) : Prop := Cond.code y bytes maxL ret ∈ gW ∧ Cond.initialized y.cls ∈ gW ∧ (y.cls ≠ "java/lang/invoke/MethodHandle" ∧ y.cls ≠ "java/lang/invoke/VarHandle" ∧ (parseMethodDescriptor y.desc).map (fun d => d.parameters.length) = some nn)
theorem gW_good {w : Cond} (h : w ∈ gW) : GoodIn gW (w :: gW) := fun u hu => (List.mem_cons.mp hu).elim (fun e => by rw [e]; exact ⟨h, good_of_word (List.mem_filter.mp h).2⟩) (fun h => ⟨h, good_of_word (List.mem_filter.mp h).2⟩)
theorem g_cb {R : Room} {s : State} {args : Array Value} {own : String} {index : Nat} {y : MethodName} {bytes : ByteArray} {maxL : Nat} {ret : Option FieldType} {rm : Room} {nn : Nat} (hG : ∀ w ∈ gW, w.before args s = true) (hb : g_CB y bytes maxL ret nn) (h1 : Cond.methodLink own index y ∈ gW) (hR : rm.frames + 1 ≤ R.frames ∧ 8 + (maxL + 11) + rm.locals ≤ R.locals) : CallB R s args own index y bytes maxL ret (Cond.code y bytes maxL ret :: gW) rm rm.cells rm.slots nn := callB_of nn hG (gW_good hb.1) rfl rfl rfl (hG _ hb.2.1) (hG _ h1) hb.2.2 hR
section GW
variable {p : Program} {l : Launch} {e : Env} {R : Room} {s : State} {m : MethodId} {args : Array Value} {below : List Frame} {meth : Method} {c : Code} {H : Heap} {locs : List Loc} {cells slots : Nat} {Q : State → Prop} {cc : ByteArray} {nL : Nat} {own : String} {D : va_G} {tys : List (ClassId × FieldType)} {n : Nat} {a : Nat → Nat} {E E' : Nat → va_E} {pc : Nat} {ls : Array Slot} {rest : List Value}
theorem g_get (F : g_F p m c cc nL s args own D tys n a) (hI : g_S n D a E s.heap H locs) {k0 ci N : Nat} {C : String} {T : u_T} {fs : List Value} {v : Value} {index : Nat} (hk0 : k0 < n) (he : E k0 = .inr (ci, fs)) (hc : vwCl[ci]? = some (C, T, N)) (hu : ∀ w ∈ u_ws C T N, w ∈ gW) (k : Nat) (hk : k < N) (hl : Cond.fieldLink own index (T k).1 (T k).2.1 (T k).2.2.1 ∈ gW) (hv : fs[k]? = some v) (hdg : decode cc pc = .ok (.getfield index, 3))
    (kk : W p l e R s m args below meth c H locs cells slots Q (F0 m (pc + 3) ls (v :: rest))) : W p l e R s m args below meth c H locs cells slots Q (F0 m pc ls (.ref (a k0) :: rest)) :=
  va_get (D := D) F.1.1 F.1.2.1 F.1.2.2.2.2 hu F.1.2.2.2.1 F.2.1 hI.1 k0 (by rw [g_wl_at hk0, he]) hc k hk (F.1.2.2.2.2 _ hl) (fun _ h => h) hv hdg kk
theorem g_put (F : g_F p m c cc nL s args own D tys n a) (hI : g_S n D a E s.heap H locs) {k0 ci N : Nat} {C : String} {T : u_T} {fs : List Value} {v : Value} {ty : FieldType} {index : Nat} (hk0 : k0 < n) (he : E k0 = .inr (ci, fs)) (hc : vwCl[ci]? = some (C, T, N)) (hu : ∀ w ∈ u_ws C T N, w ∈ gW) {ty0 : Nat → FieldType} (hty : ∀ k, k < N → parseFieldDescriptor (T k).2.2.1 = some (ty0 k)) (hnm : ∀ a, a < N → ∀ b, b < N → a ≠ b → (T a).2.1 ≠ (T b).2.1) (k : Nat) (hk : k < N) (hl : Cond.fieldLink own index (T k).1 (T k).2.1 (T k).2.2.1 ∈ gW) (hfin : (T k).2.2.2 = false) (hd : parseFieldDescriptor (T k).2.2.1 = some ty) (hn : narrow ty v = v) (hfit : fits ty v = true) (hlen : k < fs.length) (h1 : E' k0 = .inr (ci, fs.set k v)) (h2 : ∀ j, j < n → j ≠ k0 → E' j = E j) (hdg : decode cc pc = .ok (.putfield index, 3))
    (kk : ∀ (H1 : Heap) (locs1 : List Loc), g_S n D a E' s.heap H1 locs1 → W p l e R s m args below meth c H1 locs1 cells slots Q (F0 m (pc + 3) ls rest)) : W p l e R s m args below meth c H locs cells slots Q (F0 m pc ls (v :: .ref (a k0) :: rest)) :=
  va_put (D := D) F.1.1 F.1.2.1 F.1.2.2.2.2 hu ty0 hty hnm F.1.2.2.2.1 F.2.1 hI.1 (g_Do F.2.2) hI.2 k0 (by rw [g_wl_at hk0, he]) hc k hk (F.1.2.2.2.2 _ hl) (fun _ h => h) hfin hd hn hfit hlen hdg (fun H1 locs1 hP _ hS => kk H1 locs1 ⟨by rw [g_wl_set hk0 h1 h2] at hP; exact hP, hS⟩)
theorem g_alen (F : g_F p m c cc nL s args own D tys n a) (hI : g_S n D a E s.heap H locs) {k0 : Nat} {cA : ClassId} {x : vp_A} {ty : FieldType} {v : Int32} (hk0 : k0 < n) (he : E k0 = .inl (cA, x)) (t0 : Nat) (ht : tys[t0]? = some (cA, ty)) (hv : Int32.ofNat x.1 = v) (hdg : decode cc pc = .ok (.arraylength, 1))
    (kk : W p l e R s m args below meth c H locs cells slots Q (F0 m (pc + 1) ls (.int v :: rest))) : W p l e R s m args below meth c H locs cells slots Q (F0 m pc ls (.ref (a k0) :: rest)) :=
  va_alen (D := D) F.1.1 F.1.2.1 F.2.1 hI.1 k0 t0 (by rw [g_wl_at hk0, he]) ht hv hdg kk
theorem g_iald (F : g_F p m c cc nL s args own D tys n a) (hI : g_S n D a E s.heap H locs) {k0 N : Nat} {cA : ClassId} {f : Nat → Int32} {i : Int32} (hk0 : k0 < n) (he : E k0 = .inl (cA, N, .inl f)) (t0 : Nat) (ht : tys[t0]? = some (cA, .int)) (hin : vp_in i N) (hdg : decode cc pc = .ok (.iaload, 1))
    (kk : W p l e R s m args below meth c H locs cells slots Q (F0 m (pc + 1) ls (.int (f i.toNatClampNeg) :: rest))) : W p l e R s m args below meth c H locs cells slots Q (F0 m pc ls (.int i :: .ref (a k0) :: rest)) :=
  va_iald (D := D) F.1.1 F.1.2.1 F.2.1 hI.1 k0 t0 (by rw [g_wl_at hk0, he]) ht hin hdg kk
theorem g_zald (F : g_F p m c cc nL s args own D tys n a) (hI : g_S n D a E s.heap H locs) {k0 N : Nat} {cA : ClassId} {f : Nat → Int32} {i : Int32} (hk0 : k0 < n) (he : E k0 = .inl (cA, N, .inl f)) (t0 : Nat) (ht : tys[t0]? = some (cA, .boolean)) (hin : vp_in i N) (hdg : decode cc pc = .ok (.baload, 1))
    (kk : W p l e R s m args below meth c H locs cells slots Q (F0 m (pc + 1) ls (.int (f i.toNatClampNeg) :: rest))) : W p l e R s m args below meth c H locs cells slots Q (F0 m pc ls (.int i :: .ref (a k0) :: rest)) :=
  va_zald (D := D) F.1.1 F.1.2.1 F.2.1 hI.1 k0 t0 (by rw [g_wl_at hk0, he]) ht hin hdg kk
theorem g_iast (F : g_F p m c cc nL s args own D tys n a) (hI : g_S n D a E s.heap H locs) {k0 N : Nat} {cA : ClassId} {f : Nat → Int32} {i x : Int32} (hk0 : k0 < n) (he : E k0 = .inl (cA, N, .inl f)) (t0 : Nat) (ht : tys[t0]? = some (cA, .int)) (hin : vp_in i N) (h1 : E' k0 = .inl (cA, N, .inl (upd f i.toNatClampNeg x))) (h2 : ∀ j, j < n → j ≠ k0 → E' j = E j) (hdg : decode cc pc = .ok (.iastore, 1))
    (kk : ∀ (H1 : Heap) (locs1 : List Loc), g_S n D a E' s.heap H1 locs1 → W p l e R s m args below meth c H1 locs1 cells slots Q (F0 m (pc + 1) ls rest)) : W p l e R s m args below meth c H locs cells slots Q (F0 m pc ls (.int x :: .int i :: .ref (a k0) :: rest)) :=
  va_iast (D := D) F.1.1 F.1.2.1 F.2.1 hI.1 (g_Do F.2.2) hI.2 k0 t0 (by rw [g_wl_at hk0, he]) ht hin hdg (fun H1 locs1 hP _ hS => kk H1 locs1 ⟨by rw [g_wl_set hk0 h1 h2] at hP; exact hP, hS⟩)
theorem g_zast (F : g_F p m c cc nL s args own D tys n a) (hI : g_S n D a E s.heap H locs) {k0 N : Nat} {cA : ClassId} {f : Nat → Int32} {i x : Int32} (hk0 : k0 < n) (he : E k0 = .inl (cA, N, .inl f)) (t0 : Nat) (ht : tys[t0]? = some (cA, .boolean)) (hin : vp_in i N) (h1 : E' k0 = .inl (cA, N, .inl (upd f i.toNatClampNeg (x &&& 1)))) (h2 : ∀ j, j < n → j ≠ k0 → E' j = E j) (hdg : decode cc pc = .ok (.bastore, 1))
    (kk : ∀ (H1 : Heap) (locs1 : List Loc), g_S n D a E' s.heap H1 locs1 → W p l e R s m args below meth c H1 locs1 cells slots Q (F0 m (pc + 1) ls rest)) : W p l e R s m args below meth c H locs cells slots Q (F0 m pc ls (.int x :: .int i :: .ref (a k0) :: rest)) :=
  va_zast (D := D) F.1.1 F.1.2.1 F.2.1 hI.1 (g_Do F.2.2) hI.2 k0 t0 (by rw [g_wl_at hk0, he]) ht hin hdg (fun H1 locs1 hP _ hS => kk H1 locs1 ⟨by
    rw [show vp_nar .boolean x = x &&& 1 from rfl, g_wl_set hk0 h1 h2] at hP; exact hP, hS⟩)
variable {y : MethodName} {bytes : ByteArray} {maxL index ci : Nat} {rm : Room} {As : List Value} {r : Int32} {k0 : Nat} {fs : List Value} {C : String} {T : u_T} {N : Nat} {st0 : List Value} {ret : Option FieldType}
/-- a call on an object of the world that answers an int -/
theorem g_callVi (F : g_F p m c cc nL s args own D tys n a) (hI : g_S n D a E s.heap H locs) (hM : Met l y (Cond.code y bytes maxL ret :: gW) rm (g_Pc n D a E tys (.ref (a k0) :: As)) (g_Qi n D a E' r) 0 0 (g_Own n a)) (hb : g_CB y bytes maxL ret As.length) (hi : Cond.instanceMethod y ∈ gW) (hs : Cond.selects C y y ∈ gW) (h1 : Cond.methodLink own index y ∈ gW) (hR : rm.frames + 1 ≤ R.frames ∧ 8 + (maxL + 11) + rm.locals ≤ R.locals ∧ rm.cells = 0 ∧ rm.slots = 0)
    (hk0 : k0 < n) (he : E k0 = .inr (ci, fs)) (hc : vwCl[ci]? = some (C, T, N)) (hls : ls.size = nL) (hst : st0 = As.reverse ++ .ref (a k0) :: rest) (hW : (rest.map fun v => v.category).sum ≤ 8) (hcs : cells ≤ R.cells ∧ slots ≤ R.slots) (hdg : decode cc pc = .ok (.invokevirtual index, 3))
    (kk : ∀ (H1 : Heap) (locs1 : List Loc), g_S n D a E' s.heap H1 locs1 → W p l e R s m args below meth c H1 locs1 cells slots Q (F0 m (pc + 3) ls (.int r :: rest))) : W p l e R s m args below meth c H locs cells slots Q (F0 m pc ls st0) := by
  have cb := g_cb (R := R) (s := s) (args := args) (rm := rm) F.1.2.2.2.2 hb h1 ⟨hR.1, hR.2.1⟩
  rw [hR.2.2.1, hR.2.2.2] at cb
  refine va_calli (va_runV (As := As) (rest := rest) F.1 hM ⟨cb, F.1.2.2.2.2 _ hi, F.1.2.2.2.2 _ hs⟩ ⟨g_blind, va_recv F.2.1 hI.1 hc (by rw [g_wl_at hk0, he]), fun U hU hW => ⟨rfl, by rw [hU]; exact hI.1, va_K.moved hW.alike F.2.1⟩⟩ rfl rfl hls hst (lv_room hW) hdg hcs) hI.2 (fun q _ h => h) (fun q h => h) (fun r1 u t H1 locs1 ht hvm hw hB hz hk hS => ?_)
  have hw : r1 = r := hw
  subst hw
  rw [ht] at hB
  exact kk H1 locs1 ⟨hB, hS⟩
theorem g_callVv (F : g_F p m c cc nL s args own D tys n a) (hI : g_S n D a E s.heap H locs) (hM : Met l y (Cond.code y bytes maxL ret :: gW) rm (g_Pc n D a E tys (.ref (a k0) :: As)) (g_Qv n D a E') 0 0 (g_Own n a)) (hb : g_CB y bytes maxL ret As.length) (hi : Cond.instanceMethod y ∈ gW) (hs : Cond.selects C y y ∈ gW) (h1 : Cond.methodLink own index y ∈ gW) (hR : rm.frames + 1 ≤ R.frames ∧ 8 + (maxL + 11) + rm.locals ≤ R.locals ∧ rm.cells = 0 ∧ rm.slots = 0)
    (hk0 : k0 < n) (he : E k0 = .inr (ci, fs)) (hc : vwCl[ci]? = some (C, T, N)) (hls : ls.size = nL) (hst : st0 = As.reverse ++ .ref (a k0) :: rest) (hW : (rest.map fun v => v.category).sum ≤ 8) (hcs : cells ≤ R.cells ∧ slots ≤ R.slots) (hdg : decode cc pc = .ok (.invokevirtual index, 3))
    (kk : ∀ (H1 : Heap) (locs1 : List Loc), g_S n D a E' s.heap H1 locs1 → W p l e R s m args below meth c H1 locs1 cells slots Q (F0 m (pc + 3) ls rest)) : W p l e R s m args below meth c H locs cells slots Q (F0 m pc ls st0) := by
  have cb := g_cb (R := R) (s := s) (args := args) (rm := rm) F.1.2.2.2.2 hb h1 ⟨hR.1, hR.2.1⟩
  rw [hR.2.2.1, hR.2.2.2] at cb
  refine va_callv (va_runV (As := As) (rest := rest) F.1 hM ⟨cb, F.1.2.2.2.2 _ hi, F.1.2.2.2.2 _ hs⟩ ⟨g_blind, va_recv F.2.1 hI.1 hc (by rw [g_wl_at hk0, he]), fun U hU hW => ⟨rfl, by rw [hU]; exact hI.1, va_K.moved hW.alike F.2.1⟩⟩ rfl rfl hls hst (lv_room hW) hdg hcs) hI.2 (fun q _ h => h) (fun q h => h) (fun u t H1 locs1 ht hvm hw hB hz hk hS => ?_)
  rw [ht] at hB
  exact kk H1 locs1 ⟨hB, hS⟩
theorem g_callSi (F : g_F p m c cc nL s args own D tys n a) (hI : g_S n D a E s.heap H locs) (hM : Met l y (Cond.code y bytes maxL ret :: gW) rm (g_Pc n D a E tys As) (g_Qi n D a E' r) 0 0 (g_Own n a)) (hb : g_CB y bytes maxL ret As.length) (hi : Cond.static y ∈ gW) (h1 : Cond.methodLink own index y ∈ gW) (hR : rm.frames + 1 ≤ R.frames ∧ 8 + (maxL + 11) + rm.locals ≤ R.locals ∧ rm.cells = 0 ∧ rm.slots = 0)
    (hls : ls.size = nL) (hst : st0 = As.reverse ++ rest) (hW : (rest.map fun v => v.category).sum ≤ 8) (hcs : cells ≤ R.cells ∧ slots ≤ R.slots) (hdg : decode cc pc = .ok (.invokestatic index, 3))
    (kk : ∀ (H1 : Heap) (locs1 : List Loc), g_S n D a E' s.heap H1 locs1 → W p l e R s m args below meth c H1 locs1 cells slots Q (F0 m (pc + 3) ls (.int r :: rest))) : W p l e R s m args below meth c H locs cells slots Q (F0 m pc ls st0) := by
  have cb := g_cb (R := R) (s := s) (args := args) (rm := rm) F.1.2.2.2.2 hb h1 ⟨hR.1, hR.2.1⟩
  rw [hR.2.2.1, hR.2.2.2] at cb
  refine va_calli (va_runS (As := As) (rest := rest) F.1 hM ⟨cb, F.1.2.2.2.2 _ hi⟩ ⟨g_blind, fun U hU hW => ⟨rfl, by rw [hU]; exact hI.1, va_K.moved hW.alike F.2.1⟩⟩ rfl rfl hls hst (lv_room hW) hdg hcs) hI.2 (fun q _ h => h) (fun q h => h) (fun r1 u t H1 locs1 ht hvm hw hB hz hk hS => ?_)
  have hw : r1 = r := hw
  subst hw
  rw [ht] at hB
  exact kk H1 locs1 ⟨hB, hS⟩
/-- a boolean method's end: its answer is cut to one bit -/
theorem g_zret {Qc : Array Value → State → Outcome → State → Prop} {free : Addr → Prop} {v : Int32} (hexec : p.tables.exec = Jvm.exec) (hb : c.code = cc) (hr : meth.sig.returnType = some .boolean)
    (hq : ∀ t : State, t.heap = H → s.WarmedH t.vm → Qc args s (.returned (some (.int (v &&& 1)))) t) (hf : ∀ q ∈ locs, free q.base) (hdg : decode cc pc = .ok (.ireturn, 1)) (hlocks : meth.locks = false) : W p l e R s m args below meth c H locs cells slots (MQ below Qc args s cells slots free) (F0 m pc ls [.int v]) := by
  intro T hT X
  obtain ⟨fs, hret, hrun, hended, hW, hframe⟩ := X.leave (v := some (.int (v &&& 1))) (fun h => by rw [hr] at h; cases h)
  have hmeth' : T.vm.method? m = some meth := X.method'
  refine ⟨T.setFrames fs, ?_, .returned (some (.int (v &&& 1))), hrun, hended, hq _ hT hW, locs, ⟨⟨_, rfl⟩, hW, hframe⟩, hf⟩
  jvm_step X.here [X.here.top, hexec, hb, hdg, hmeth', hr, narrow]
  (try refine ⟨rfl, ?_⟩); (try refine ⟨rfl, ?_⟩)
  first | (intro acts; rw [hret _ acts rfl rfl rfl]) | rw [hret _ _ rfl rfl rfl]
  exact Steps.refl _
end GW
/-- a method that answers an int, by its body -/
theorem g_meti {l : Launch} {y : MethodName} {cc : ByteArray} {maxL : Nat} {rm : Room} {n : Nat} {D : va_G} {a : Nat → Nat} {E E' : Nat → va_E} {tys : List (ClassId × FieldType)} {av : List Value} {r : Int32} (hy : plainName y.cls = true) (hj : g_Inj n a) (hn : (lg_sl av).length ≤ maxL)
    (body : ∀ (p : Program) (e : Env) (s : State) (m : MethodId) (args : Array Value) (below : List Frame) (meth : Method) (c : Code) (Q : State → Prop) (ls : Array Slot), g_F p m c cc maxL s args y.cls D tys n a → lv_has ls maxL (lv_args 0 av) → g_S n D a E s.heap s.heap [] →
      (∀ (H1 : Heap) (locs1 : List Loc) (pc1 : Nat) (ls1 : Array Slot), g_S n D a E' s.heap H1 locs1 → decode cc pc1 = .ok (.ireturn, 1) → W p l e rm s m args below meth c H1 locs1 0 0 Q (F0 m pc1 ls1 [.int r])) → W p l e rm s m args below meth c s.heap [] 0 0 Q (F0 m 0 ls [])) :
    Met l y (Cond.code y cc maxL (some .int) :: gW) rm (g_Pc n D a E tys av) (g_Qi n D a E' r) 0 0 (g_Own n a) := by
  refine Met.ofW (cc := cc) (maxL := maxL) (ret := some .int) hy rfl ?_
  intro p e s m args below meth c s₁ B hml hv
  obtain ⟨rfl, hP, hK⟩ := hv
  have hts := atoms_spec (ws := Cond.code y cc maxL (some .int) :: gW) B.pre
  have hl := lv_entry av (n := maxL) hn
  rw [lg_entry_eq]
  generalize (lg_sl av ++ List.replicate (maxL - (lg_sl av).length) Slot.unset).toArray = ls at hl ⊢
  refine body p e s m _ below meth c _ ls ⟨⟨B.exec, B.bytes, hml, findClass_of_methodNamed B.named, fun w h => hts w (List.mem_cons_of_mem _ h)⟩, hK, hj⟩ hl ⟨hP, va_S.rf⟩ (fun H1 locs1 pc1 ls1 hS hd => ?_)
  exact W.iret (v := r) B.exec B.bytes B.returns (fun t ht hW => ⟨⟨r, (), rfl, rfl, by show va_P D vwCl (g_wl n a E') t.heap; rw [ht]; exact hS.1⟩, hS.2.F ht⟩) hS.2.2.2 hd B.notSynchronized
theorem g_metz {l : Launch} {y : MethodName} {cc : ByteArray} {maxL : Nat} {rm : Room} {n : Nat} {D : va_G} {a : Nat → Nat} {E E' : Nat → va_E} {tys : List (ClassId × FieldType)} {av : List Value} {r : Int32} (hy : plainName y.cls = true) (hj : g_Inj n a) (hn : (lg_sl av).length ≤ maxL)
    (body : ∀ (p : Program) (e : Env) (s : State) (m : MethodId) (args : Array Value) (below : List Frame) (meth : Method) (c : Code) (Q : State → Prop) (ls : Array Slot), g_F p m c cc maxL s args y.cls D tys n a → lv_has ls maxL (lv_args 0 av) → g_S n D a E s.heap s.heap [] →
      (∀ (H1 : Heap) (locs1 : List Loc) (pc1 : Nat) (ls1 : Array Slot) (v : Int32), v &&& 1 = r → g_S n D a E' s.heap H1 locs1 → decode cc pc1 = .ok (.ireturn, 1) → W p l e rm s m args below meth c H1 locs1 0 0 Q (F0 m pc1 ls1 [.int v])) → W p l e rm s m args below meth c s.heap [] 0 0 Q (F0 m 0 ls [])) :
    Met l y (Cond.code y cc maxL (some .boolean) :: gW) rm (g_Pc n D a E tys av) (g_Qi n D a E' r) 0 0 (g_Own n a) := by
  refine Met.ofW (cc := cc) (maxL := maxL) (ret := some .boolean) hy rfl ?_
  intro p e s m args below meth c s₁ B hml hv
  obtain ⟨rfl, hP, hK⟩ := hv
  have hts := atoms_spec (ws := Cond.code y cc maxL (some .boolean) :: gW) B.pre
  have hl := lv_entry av (n := maxL) hn
  rw [lg_entry_eq]
  generalize (lg_sl av ++ List.replicate (maxL - (lg_sl av).length) Slot.unset).toArray = ls at hl ⊢
  refine body p e s m _ below meth c _ ls ⟨⟨B.exec, B.bytes, hml, findClass_of_methodNamed B.named, fun w h => hts w (List.mem_cons_of_mem _ h)⟩, hK, hj⟩ hl ⟨hP, va_S.rf⟩ (fun H1 locs1 pc1 ls1 v hv hS hd => ?_)
  exact g_zret (v := v) B.exec B.bytes B.returns (fun t ht hW => ⟨⟨r, (), by rw [hv], rfl, by show va_P D vwCl (g_wl n a E') t.heap; rw [ht]; exact hS.1⟩, hS.2.F ht⟩) hS.2.2.2 hd B.notSynchronized
theorem g_metv {l : Launch} {y : MethodName} {cc : ByteArray} {maxL : Nat} {rm : Room} {n : Nat} {D : va_G} {a : Nat → Nat} {E E' : Nat → va_E} {tys : List (ClassId × FieldType)} {av : List Value} (hy : plainName y.cls = true) (hj : g_Inj n a) (hn : (lg_sl av).length ≤ maxL)
    (body : ∀ (p : Program) (e : Env) (s : State) (m : MethodId) (args : Array Value) (below : List Frame) (meth : Method) (c : Code) (Q : State → Prop) (ls : Array Slot), g_F p m c cc maxL s args y.cls D tys n a → lv_has ls maxL (lv_args 0 av) → g_S n D a E s.heap s.heap [] →
      (∀ (H1 : Heap) (locs1 : List Loc) (pc1 : Nat) (ls1 : Array Slot), g_S n D a E' s.heap H1 locs1 → decode cc pc1 = .ok (.return_, 1) → W p l e rm s m args below meth c H1 locs1 0 0 Q (F0 m pc1 ls1 [])) → W p l e rm s m args below meth c s.heap [] 0 0 Q (F0 m 0 ls [])) :
    Met l y (Cond.code y cc maxL none :: gW) rm (g_Pc n D a E tys av) (g_Qv n D a E') 0 0 (g_Own n a) := by
  refine Met.ofW (cc := cc) (maxL := maxL) (ret := none) hy rfl ?_
  intro p e s m args below meth c s₁ B hml hv
  obtain ⟨rfl, hP, hK⟩ := hv
  have hts := atoms_spec (ws := Cond.code y cc maxL none :: gW) B.pre
  have hl := lv_entry av (n := maxL) hn
  rw [lg_entry_eq]
  generalize (lg_sl av ++ List.replicate (maxL - (lg_sl av).length) Slot.unset).toArray = ls at hl ⊢
  refine body p e s m _ below meth c _ ls ⟨⟨B.exec, B.bytes, hml, findClass_of_methodNamed B.named, fun w h => hts w (List.mem_cons_of_mem _ h)⟩, hK, hj⟩ hl ⟨hP, va_S.rf⟩ (fun H1 locs1 pc1 ls1 hS hd => ?_)
  exact W.vret B.exec B.bytes B.returns (fun t ht hW => ⟨⟨(), rfl, trivial, by show va_P D vwCl (g_wl n a E') t.heap; rw [ht]; exact hS.1⟩, hS.2.F ht⟩) hS.2.2.2 hd B.notSynchronized
