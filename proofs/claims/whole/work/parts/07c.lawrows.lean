/-! rows of the law's own body -/
def g_LS (D : va_G) (a : Nat → Nat) (E : Nat → va_E) (s : State) (H : Heap) (locs : List Loc) : Prop := va_P D vwCl (g_wl 87 a E) H ∧ va_S (fun q => s.heap.size ≤ q) s.heap H locs
def g_LF (p : Program) (l : Launch) (m : MethodId) (c : Code) (s : State) (args : Array Value) (D : va_G) (a : Nat → Nat) (cI cZ cJ : ClassId) (sa : Nat → Nat) : Prop := CallFix p m c cL_law 7 s args gW RL ∧ va_K D vwCl [(cI, .int), (cJ, .long), (cZ, .boolean)] s ∧ g_Inj 87 a ∧ (∀ k, k < 87 → s.heap.size ≤ a k) ∧ gXV sa s ∧ gXA (fun q => s.heap.size ≤ q) s s.heap ∧ gNC s ∧ l.stackTraces = false
theorem g_inj_m {a : Nat → Nat} (h : g_Inj 87 a) : g_Inj 21 (fun j => a (66 + j)) := fun i j hi hj he => by
  have := h (66 + i) (66 + j) (by omega) (by omega) he
  omega
section GLR
variable {p : Program} {l : Launch} {e : Env} {R : Room} {s : State} {m : MethodId} {args : Array Value} {below : List Frame} {meth : Method} {c : Code} {H : Heap} {locs : List Loc} {cells slots : Nat} {Q : State → Prop} {D : va_G} {a : Nat → Nat} {pc : Nat} {ls : Array Slot} {rest : List Value} {cI cJ cZ : ClassId} {y : MethodName} {bytes : ByteArray} {maxL index mc ms : Nat} {rm : Room} {As : List Value} {r : Int32} {st0 : List Value} {ret : Option FieldType} {sa : Nat → Nat} {S : lSt}
theorem g_lcW {hh : List (Nat × Nat × Nat × Nat)} {σ' : gSt} {f' : Nat → Int64} (F : g_LF p l m c s args D a cI cZ cJ sa) (hI : g_LS D a (lE a cI cZ cJ S) s H locs) (hM : Met l y (Cond.codeWith y bytes maxL (some .int) hh :: gW) rm (g_PcL D a (wE a cI cJ S.1 S.2.2) [(cI, .int), (cJ, .long)] sa As) (g_Qi 66 D a (wE a cI cJ σ' f') r) mc ms (g_Own 66 a)) (hc : Cond.codeWith y bytes maxL (some .int) hh ∈ gW) (hini : Cond.initialized y.cls ∈ gW) (hd : y.cls ≠ "java/lang/invoke/MethodHandle" ∧ y.cls ≠ "java/lang/invoke/VarHandle" ∧ (parseMethodDescriptor y.desc).map (fun d => d.parameters.length) = some As.length) (hst : Cond.static y ∈ gW) (h1 : Cond.methodLink RL index y ∈ gW) (hR : rm.frames + 1 ≤ R.frames ∧ 8 + (maxL + 11) + rm.locals ≤ R.locals ∧ rm.cells = mc ∧ rm.slots = ms)
    (hls : ls.size = 7) (hstk : st0 = As.reverse ++ rest) (hW : (rest.map fun v => v.category).sum ≤ 8) (hcs : cells + mc ≤ R.cells ∧ slots + ms ≤ R.slots) (hdg : decode cL_law pc = .ok (.invokestatic index, 3))
    (kk : ∀ (H1 : Heap) (locs1 : List Loc), g_LS D a (lE a cI cZ cJ (σ', S.2.1, f')) s H1 locs1 → W p l e R s m args below meth c H1 locs1 (cells + mc) (slots + ms) Q (F0 m (pc + 3) ls (.int r :: rest))) : W p l e R s m args below meth c H locs cells slots Q (F0 m pc ls st0) := by
  have hG := F.1.2.2.2.2
  have hι : ∀ k, k < 66 → id k < 87 ∧ a k = a (id k) := fun k h => ⟨Nat.lt_of_lt_of_le h (by decide), rfl⟩
  have h66 : va_P D vwCl (g_wl 66 a (wE a cI cJ S.1 S.2.2)) H := g_sub id hι (fun k h => lE_lo h) hI.1
  have ho : ∀ q, g_Own 66 a q → s.heap.size ≤ q := fun q ⟨k, h1, h2⟩ => by rw [h2]; exact F.2.2.2.1 k (Nat.lt_of_lt_of_le h1 (by decide))
  have cw : vx_CSW R s args RL index y bytes maxL (some .int) hh (Cond.codeWith y bytes maxL (some .int) hh :: gW) rm mc ms As.length := ⟨⟨hR.2.2.1, hR.2.2.2, hR.1, hR.2.1, pay_in hG (gW_good hc), List.mem_cons_self⟩, hG _ hc, hG _ hini, ⟨hd.1, hd.2.1⟩, fun sig h => by
    have h2 := hd.2.2
    rw [h] at h2
    exact (Option.some.inj h2).symm, hG _ h1, hG _ hst⟩
  refine va_calli (vx_runSW (As := As) (rest := rest) F.1 hM cw ⟨g_blindL, fun U hU hW => ⟨rfl, by rw [hU]; exact h66, va_K.moved hW.alike (F.2.1.sub [0, 1] rfl), gXV.warm hW F.2.2.2.2.1, by rw [hU]; exact gXA.moved hW.alike (gXA.narrow (gXA.kept F.2.2.2.2.2.1 hI.2.2.1) ho), gNC.moved hW.alike F.2.2.2.2.2.2.1⟩⟩ rfl rfl hls hstk (lv_room hW) hdg hcs) hI.2 (fun q _ h => ho q h) ho (fun r1 u t H1 locs1 ht hvm hw hB hz hk hS => ?_)
  have hw : r1 = r := hw
  subst hw
  rw [ht] at hB
  refine kk H1 locs1 ⟨g_embed id F.2.2.1 hι (fun k h => lE_lo h) (fun j hj h => ?_) hI.1 hk hB, hS⟩
  have h2 : 66 ≤ j := by
    rcases Nat.lt_or_ge j 66 with q | q
    · exact absurd rfl (h j q)
    · exact q
  rw [show j = 66 + (j - 66) by omega, lE_hi, lE_hi]
theorem g_lcM {τ' : gSt} (F : g_LF p l m c s args D a cI cZ cJ sa) (hI : g_LS D a (lE a cI cZ cJ S) s H locs) (hM : Met l y (Cond.code y bytes maxL ret :: gW) rm (g_Pc 21 D (fun j => a (66 + j)) (mE (fun j => a (66 + j)) cI cZ S.2.1) [(cI, .int), (cZ, .boolean)] (.ref (a 66) :: As)) (g_Qi 21 D (fun j => a (66 + j)) (mE (fun j => a (66 + j)) cI cZ τ') r) 0 0 (g_Own 21 (fun j => a (66 + j)))) (hb : g_CB y bytes maxL ret As.length) (hi : Cond.instanceMethod y ∈ gW) (hs : Cond.selects RX10 y y ∈ gW) (h1 : Cond.methodLink RL index y ∈ gW) (hR : rm.frames + 1 ≤ R.frames ∧ 8 + (maxL + 11) + rm.locals ≤ R.locals ∧ rm.cells = 0 ∧ rm.slots = 0)
    (hls : ls.size = 7) (hstk : st0 = As.reverse ++ .ref (a 66) :: rest) (hW : (rest.map fun v => v.category).sum ≤ 8) (hcs : cells ≤ R.cells ∧ slots ≤ R.slots) (hdg : decode cL_law pc = .ok (.invokevirtual index, 3))
    (kk : ∀ (H1 : Heap) (locs1 : List Loc), g_LS D a (lE a cI cZ cJ (S.1, τ', S.2.2)) s H1 locs1 → W p l e R s m args below meth c H1 locs1 cells slots Q (F0 m (pc + 3) ls (.int r :: rest))) : W p l e R s m args below meth c H locs cells slots Q (F0 m pc ls st0) := by
  have hG := F.1.2.2.2.2
  have cb := g_cb (R := R) (s := s) (args := args) (rm := rm) hG hb h1 ⟨hR.1, hR.2.1⟩
  rw [hR.2.2.1, hR.2.2.2] at cb
  have hι : ∀ k, k < 21 → (fun j => 66 + j) k < 87 ∧ (fun j => a (66 + j)) k = a ((fun j => 66 + j) k) := fun k h => ⟨by show 66 + k < 87; omega, rfl⟩
  have h21 : va_P D vwCl (g_wl 21 (fun j => a (66 + j)) (mE (fun j => a (66 + j)) cI cZ S.2.1)) H := g_sub (fun j => 66 + j) hι (fun k h => lE_hi) hI.1
  have ho : ∀ q, g_Own 21 (fun j => a (66 + j)) q → s.heap.size ≤ q := fun q ⟨k, h1, h2⟩ => by rw [h2]; exact F.2.2.2.1 (66 + k) (by omega)
  refine va_calli (va_runV (C := RX10) (As := As) (rest := rest) F.1 hM ⟨cb, hG _ hi, hG _ hs⟩ ⟨g_blind, va_recv (q0 := 0) (ci := 10) F.2.1 h21 (q := (RX10, TX10, 27)) rfl (by rw [g_wl_at (by decide), mE_0]), fun U hU hW => ⟨rfl, by rw [hU]; exact h21, va_K.moved hW.alike (F.2.1.sub [0, 2] rfl)⟩⟩ rfl rfl hls hstk (lv_room hW) hdg hcs) hI.2 (fun q _ h => ho q h) ho (fun r1 u t H1 locs1 ht hvm hw hB hz hk hS => ?_)
  have hw : r1 = r := hw
  subst hw
  rw [ht] at hB
  refine kk H1 locs1 ⟨g_embed (fun j => 66 + j) F.2.2.1 hι (fun k h => lE_hi) (fun j hj h => ?_) hI.1 hk hB, hS⟩
  have h2 : j < 66 := by
    rcases Nat.lt_or_ge j 66 with q | q
    · exact q
    · exact absurd (show 66 + (j - 66) = j by omega) (h (j - 66) (by omega))
  rw [lE_lo h2, lE_lo h2]
theorem g_lcX {σ' : gSt} (F : g_LF p l m c s args D a cI cZ cJ sa) (hI : g_LS D a (lE a cI cZ cJ S) s H locs) (hM : Met l y (Cond.code y bytes maxL ret :: gW) rm (g_Pc 65 D a (gE a cI S.1) [(cI, .int)] (.ref (a 0) :: As)) (g_Qi 65 D a (gE a cI σ') r) 0 0 (g_Own 65 a)) (hb : g_CB y bytes maxL ret As.length) (hi : Cond.instanceMethod y ∈ gW) (hs : Cond.selects RX9 y y ∈ gW) (h1 : Cond.methodLink RL index y ∈ gW) (hR : rm.frames + 1 ≤ R.frames ∧ 8 + (maxL + 11) + rm.locals ≤ R.locals ∧ rm.cells = 0 ∧ rm.slots = 0)
    (hls : ls.size = 7) (hstk : st0 = As.reverse ++ .ref (a 0) :: rest) (hW : (rest.map fun v => v.category).sum ≤ 8) (hcs : cells ≤ R.cells ∧ slots ≤ R.slots) (hdg : decode cL_law pc = .ok (.invokevirtual index, 3))
    (kk : ∀ (H1 : Heap) (locs1 : List Loc), g_LS D a (lE a cI cZ cJ (σ', S.2.1, S.2.2)) s H1 locs1 → W p l e R s m args below meth c H1 locs1 cells slots Q (F0 m (pc + 3) ls (.int r :: rest))) : W p l e R s m args below meth c H locs cells slots Q (F0 m pc ls st0) := by
  have hG := F.1.2.2.2.2
  have cb := g_cb (R := R) (s := s) (args := args) (rm := rm) hG hb h1 ⟨hR.1, hR.2.1⟩
  rw [hR.2.2.1, hR.2.2.2] at cb
  have hι : ∀ k, k < 65 → id k < 87 ∧ a k = a (id k) := fun k h => ⟨Nat.lt_of_lt_of_le h (by decide), rfl⟩
  have hlo : ∀ (S : lSt) (k : Nat), k < 65 → lE a cI cZ cJ S k = gE a cI S.1 k := fun S k h => by rw [lE_lo (by omega), wE_lo h]
  have h65 : va_P D vwCl (g_wl 65 a (gE a cI S.1)) H := g_sub id hι (fun k h => hlo S k h) hI.1
  have ho : ∀ q, g_Own 65 a q → s.heap.size ≤ q := fun q ⟨k, h1, h2⟩ => by rw [h2]; exact F.2.2.2.1 k (Nat.lt_of_lt_of_le h1 (by decide))
  refine va_calli (va_runV (C := RX9) (As := As) (rest := rest) F.1 hM ⟨cb, hG _ hi, hG _ hs⟩ ⟨g_blind, va_recv (q0 := 0) (ci := 9) F.2.1 h65 (q := (RX9, TX9, 8)) rfl (by rw [g_wl_at (by decide), gE_0]), fun U hU hW => ⟨rfl, by rw [hU]; exact h65, va_K.moved hW.alike (F.2.1.sub [0] rfl)⟩⟩ rfl rfl hls hstk (lv_room hW) hdg hcs) hI.2 (fun q _ h => ho q h) ho (fun r1 u t H1 locs1 ht hvm hw hB hz hk hS => ?_)
  have hw : r1 = r := hw
  subst hw
  rw [ht] at hB
  refine kk H1 locs1 ⟨g_embed id F.2.2.1 hι (fun k h => hlo _ k h) (fun j hj h => ?_) hI.1 hk hB, hS⟩
  have h2 : 65 ≤ j := by
    rcases Nat.lt_or_ge j 65 with q | q
    · exact absurd rfl (h j q)
    · exact q
  by_cases h3 : j < 66
  · obtain rfl : j = 65 := by omega
    rw [lE_lo (by decide), lE_lo (by decide), wE_out, wE_out]
  · rw [show j = 66 + (j - 66) by omega, lE_hi, lE_hi]
theorem g_llald (F : g_LF p l m c s args D a cI cZ cJ sa) (hI : g_LS D a (lE a cI cZ cJ S) s H locs) (hdg : decode cL_law pc = .ok (.laload, 1))
    (kk : W p l e R s m args below meth c H locs cells slots Q (F0 m (pc + 1) ls (.long (S.2.2 0) :: rest))) : W p l e R s m args below meth c H locs cells slots Q (F0 m pc ls (.int 0 :: .ref (a 65) :: rest)) :=
  va_lald (D := D) F.1.1 F.1.2.1 F.2.1 hI.1 65 1 (by rw [g_wl_at (by decide), lE_lo (by decide), wE_out]) rfl (by unfold vp_in; decide) hdg kk
end GLR
