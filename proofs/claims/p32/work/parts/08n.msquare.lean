/-! ===== pure: the reference's square ===== -/
theorem ofn_lit {v : Int32} {k d : Nat} (hv : v.toInt = k) (hk : k < 1000) (hd : d < 1000) : (v + Int32.ofNat d).toInt = (k + d : Nat) := by
  rw [tadd (by rw [hv, tnat (by omega)]; omega), hv, tnat (by omega)]
  omega
theorem par14 {a b c e p q r t : Prop} (ga : a ↔ ¬ (p ↔ q)) (gb : b ↔ ¬ (r ↔ t)) (gc : c ↔ ¬ (p ↔ r)) (ge : e ↔ ¬ (q ↔ t)) (pa : a) (pb : b) (pc : c) (pe : ¬ e) : False := by
  by_cases p <;> by_cases q <;> by_cases r <;> by_cases t <;> simp_all
theorem par13 {a b c e p q r t : Prop} (ga : a ↔ ¬ (p ↔ q)) (gb : b ↔ ¬ (r ↔ t)) (gc : c ↔ ¬ (p ↔ r)) (ge : e ↔ ¬ (q ↔ t)) (pa : a) (pb : b) (pc : ¬ c) (pe : e) : False := by
  by_cases p <;> by_cases q <;> by_cases r <;> by_cases t <;> simp_all
theorem par11 {a b c e p q r t : Prop} (ga : a ↔ ¬ (p ↔ q)) (gb : b ↔ ¬ (r ↔ t)) (gc : c ↔ ¬ (p ↔ r)) (ge : e ↔ ¬ (q ↔ t)) (pa : a) (pb : ¬ b) (pc : c) (pe : e) : False := by
  by_cases p <;> by_cases q <;> by_cases r <;> by_cases t <;> simp_all
theorem par8 {a b c e p q r t : Prop} (ga : a ↔ ¬ (p ↔ q)) (gb : b ↔ ¬ (r ↔ t)) (gc : c ↔ ¬ (p ↔ r)) (ge : e ↔ ¬ (q ↔ t)) (pa : a) (pb : ¬ b) (pc : ¬ c) (pe : ¬ e) : False := by
  by_cases p <;> by_cases q <;> by_cases r <;> by_cases t <;> simp_all
theorem par7 {a b c e p q r t : Prop} (ga : a ↔ ¬ (p ↔ q)) (gb : b ↔ ¬ (r ↔ t)) (gc : c ↔ ¬ (p ↔ r)) (ge : e ↔ ¬ (q ↔ t)) (pa : ¬ a) (pb : b) (pc : c) (pe : e) : False := by
  by_cases p <;> by_cases q <;> by_cases r <;> by_cases t <;> simp_all
theorem par4 {a b c e p q r t : Prop} (ga : a ↔ ¬ (p ↔ q)) (gb : b ↔ ¬ (r ↔ t)) (gc : c ↔ ¬ (p ↔ r)) (ge : e ↔ ¬ (q ↔ t)) (pa : ¬ a) (pb : b) (pc : ¬ c) (pe : ¬ e) : False := by
  by_cases p <;> by_cases q <;> by_cases r <;> by_cases t <;> simp_all
theorem par2 {a b c e p q r t : Prop} (ga : a ↔ ¬ (p ↔ q)) (gb : b ↔ ¬ (r ↔ t)) (gc : c ↔ ¬ (p ↔ r)) (ge : e ↔ ¬ (q ↔ t)) (pa : ¬ a) (pb : ¬ b) (pc : c) (pe : ¬ e) : False := by
  by_cases p <;> by_cases q <;> by_cases r <;> by_cases t <;> simp_all
theorem par1 {a b c e p q r t : Prop} (ga : a ↔ ¬ (p ↔ q)) (gb : b ↔ ¬ (r ↔ t)) (gc : c ↔ ¬ (p ↔ r)) (ge : e ↔ ¬ (q ↔ t)) (pa : ¬ a) (pb : ¬ b) (pc : ¬ c) (pe : e) : False := by
  by_cases p <;> by_cases q <;> by_cases r <;> by_cases t <;> simp_all
theorem sum4 : (1 + 1 + 1 + 1 : Int32) = 4 := by decide
theorem okb {α T : Type} {P : T → Prop} {o : Option α} {v : α} {k : α → Option T} (h : o = some v) (g : Ok P (k v)) : Ok P (o.bind k) := by
  rw [h]
  exact g
theorem okj {X T : Type} {P : T → Prop} {k : X → Option T} {t : (X → Option T) → Option T} (h : Ok P (t k)) : Ok P (gJoin1 k t) := h
theorem okt {T : Type} {P : T → Prop} {c : Prop} {d : Decidable c} {a b : Option T} (h : c) (g : Ok P a) : Ok P (@ite _ c d a b) := by
  rw [if_pos h]
  exact g
theorem okf {T : Type} {P : T → Prop} {c : Prop} {d : Decidable c} {a b : Option T} (h : ¬ c) (g : Ok P b) : Ok P (@ite _ c d a b) := by
  rw [if_neg h]
  exact g
theorem sq_1111 {τ s : gSt} {N : Nat} {lv v : Int32} {B : Nat → Int32} {M : Nat → Nat} {k : Nat} (hN : 288 < N) (hS : MS τ lv B M s) (hv : v.toInt = k) (e12 : (v + 12).toInt = (k + 12 : Nat)) (e144 : (144 + v).toInt = (144 + k : Nat)) (e145 : (144 + v + 1).toInt = (145 + k : Nat)) (A0 : f_X10_isGap N s v lv = some 1) (B0 : f_X10_isGap N s (v + 12) lv = some 1) (C0 : f_X10_isGap N s (144 + v) lv = some 1) (E0 : f_X10_isGap N s (144 + v + 1) lv = some 1) (pa : gapP τ lv k) (pb : gapP τ lv (k + 12)) (pc : gapP τ lv (144 + k)) (pe : gapP τ lv (145 + k)) (hT : InvT τ) (hl : 1 ≤ lv.toInt ∧ lv.toInt ≤ 255) (hk : sqIn τ k) (e1 : (v + 1).toInt = (k + 1 : Nat)) (e13 : (v + 13).toInt = (k + 13 : Nat)) (hkk : k < 131) : Ok (MS τ lv B (cif (sqOwn τ lv k) (relab (relab M k (144 + k)) (k + 12) (145 + k)) (relab (relab M k (145 + k)) (k + 12) (144 + k)))) (f_X10_joinsSquare N s v lv) := by
  have hh := hT.2.2.2.2.1
  have hM := hS.1.mp
  unfold f_X10_joinsSquare
  refine okb A0 (okj (okf one_ne ?_))
  refine okb B0 (okj (okf one_ne ?_))
  refine okb C0 (okj (okf one_ne ?_))
  refine okb E0 (okj (okf one_ne ?_))
  have gv : ∀ {x : Int32} {n : Nat}, x.toInt = n → n < 144 → ¬ (x < 0 ∨ 144 ≤ x.toNatClampNeg) := fun h1 h2 => by rw [tlt, tl0, tcl, h1]; omega
  have h0 := hh k
  have h1 := hh (k + 1)
  have h2 := hh (k + 12)
  have h3 := hh (k + 13)
  have q0 : g_ga s 0 v = τ.1 0 k := by rw [ga_at hv, hM.1]
  have q1 : g_ga s 0 (v + 1) = τ.1 0 (k + 1) := by rw [ga_at e1, hM.1]
  have q2 : g_ga s 0 (v + 12) = τ.1 0 (k + 12) := by rw [ga_at e12, hM.1]
  have q3 : g_ga s 0 (v + 13) = τ.1 0 (k + 13) := by rw [ga_at e13, hM.1]
  have s1 : (τ.1 0 k + τ.1 0 (k + 1)).toInt = (τ.1 0 k).toInt + (τ.1 0 (k + 1)).toInt := tadd (by omega)
  have s2 : (τ.1 0 k + τ.1 0 (k + 1) + τ.1 0 (k + 12)).toInt = (τ.1 0 k).toInt + (τ.1 0 (k + 1)).toInt + (τ.1 0 (k + 12)).toInt := by rw [tadd (by rw [s1]; omega), s1]
  have s3 : (τ.1 0 k + τ.1 0 (k + 1) + τ.1 0 (k + 12) + τ.1 0 (k + 13)).toInt = (τ.1 0 k).toInt + (τ.1 0 (k + 1)).toInt + (τ.1 0 (k + 12)).toInt + (τ.1 0 (k + 13)).toInt := by rw [tadd (by rw [s2]; omega), s2]
  have s4 : (4 * lv).toInt = 4 * lv.toInt := by rw [tmul (by rw [tl4]; omega), tl4]
  refine okt sum4 (okf (gv hv (by omega)) (okf (gv e1 (by omega)) (okf (gv e12 (by omega)) (okf (gv e13 (by omega)) (okj ?_)))))
  rw [q0, q1, q2, q3]
  by_cases cs : τ.1 0 k + τ.1 0 (k + 1) + τ.1 0 (k + 12) + τ.1 0 (k + 13) < 4 * lv <;> by_cases ch : lv ≤ τ.1 0 k
  · refine okt cs (okf (gv hv (by omega)) (okj (okt ch (okj (okt rfl (okj (okf one_ne ?_)))))))
    rw [tlt, s3, s4] at cs
    rw [tle] at ch
    have hq : sqOwn τ lv k := ⟨fun h => absurd ch h, fun h => by omega⟩
    rw [cif_pos hq]
    exact (joins_m hN hS hv e144 pa pc).bind (fun t ht => okj (okf one_ne ((joins_m hN ht e12 e145 pb pe).bind (fun u hu => Ok.some hu))))
  · refine okt cs (okf (gv hv (by omega)) (okj (okf ch (okj (okf one_ne (okj (okt rfl ?_)))))))
    rw [tlt, s3, s4] at cs
    rw [tle] at ch
    have hq : ¬ sqOwn τ lv k := fun h => by have := h.mp ch; omega
    rw [cif_neg hq]
    exact (joins_m hN hS hv e145 pa pe).bind (fun t ht => okj (okt rfl ((joins_m hN ht e12 e144 pb pc).bind (fun u hu => Ok.some hu))))
  · refine okf cs (okf (gv hv (by omega)) (okj (okt ch (okj (okf (show ¬ (0 : Int32) = 1 by decide) (okj (okt rfl ?_)))))))
    rw [tlt, s3, s4] at cs
    rw [tle] at ch
    have hq : ¬ sqOwn τ lv k := fun h => absurd ch (h.mpr (by omega))
    rw [cif_neg hq]
    exact (joins_m hN hS hv e145 pa pe).bind (fun t ht => okj (okt rfl ((joins_m hN ht e12 e144 pb pc).bind (fun u hu => Ok.some hu))))
  · refine okf cs (okf (gv hv (by omega)) (okj (okf ch (okj (okt rfl (okj (okf one_ne ?_)))))))
    rw [tlt, s3, s4] at cs
    rw [tle] at ch
    have hq : sqOwn τ lv k := ⟨fun h => by omega, fun h => ch⟩
    rw [cif_pos hq]
    exact (joins_m hN hS hv e144 pa pc).bind (fun t ht => okj (okf one_ne ((joins_m hN ht e12 e145 pb pe).bind (fun u hu => Ok.some hu))))
theorem sq_1100 {τ s : gSt} {N : Nat} {lv v : Int32} {B : Nat → Int32} {M : Nat → Nat} {k : Nat} (hN : 288 < N) (hS : MS τ lv B M s) (hv : v.toInt = k) (e12 : (v + 12).toInt = (k + 12 : Nat)) (e144 : (144 + v).toInt = (144 + k : Nat)) (e145 : (144 + v + 1).toInt = (145 + k : Nat)) (A0 : f_X10_isGap N s v lv = some 1) (B0 : f_X10_isGap N s (v + 12) lv = some 1) (C0 : f_X10_isGap N s (144 + v) lv = some 0) (E0 : f_X10_isGap N s (144 + v + 1) lv = some 0) (pa : gapP τ lv k) (pb : gapP τ lv (k + 12)) : Ok (MS τ lv B (relab M k (k + 12))) (f_X10_joinsSquare N s v lv) := by
  unfold f_X10_joinsSquare
  refine okb A0 (okj (okf one_ne ?_))
  refine okb B0 (okj (okf one_ne ?_))
  refine okb C0 (okj (okt rfl ?_))
  refine okb E0 (okj (okt rfl ?_))
  refine okf (show ¬ (1 + 1 + 0 + 0 : Int32) = 4 by decide) (okt (show (1 + 1 + 0 + 0 : Int32) = 2 by decide) ?_)
  refine okb A0 (okj (okf one_ne ?_))
  refine okb E0 (okj (okt rfl ?_))
  refine okb C0 (okt rfl ?_)
  exact (joins_m hN hS hv e12 pa pb).bind (fun t ht => Ok.some ht)
theorem sq_1010 {τ s : gSt} {N : Nat} {lv v : Int32} {B : Nat → Int32} {M : Nat → Nat} {k : Nat} (hN : 288 < N) (hS : MS τ lv B M s) (hv : v.toInt = k) (e12 : (v + 12).toInt = (k + 12 : Nat)) (e144 : (144 + v).toInt = (144 + k : Nat)) (e145 : (144 + v + 1).toInt = (145 + k : Nat)) (A0 : f_X10_isGap N s v lv = some 1) (B0 : f_X10_isGap N s (v + 12) lv = some 0) (C0 : f_X10_isGap N s (144 + v) lv = some 1) (E0 : f_X10_isGap N s (144 + v + 1) lv = some 0) (pa : gapP τ lv k) (pc : gapP τ lv (144 + k)) : Ok (MS τ lv B (relab M k (144 + k))) (f_X10_joinsSquare N s v lv) := by
  unfold f_X10_joinsSquare
  refine okb A0 (okj (okf one_ne ?_))
  refine okb B0 (okj (okt rfl ?_))
  refine okb C0 (okj (okf one_ne ?_))
  refine okb E0 (okj (okt rfl ?_))
  refine okf (show ¬ (1 + 0 + 1 + 0 : Int32) = 4 by decide) (okt (show (1 + 0 + 1 + 0 : Int32) = 2 by decide) ?_)
  refine okb A0 (okj (okf one_ne ?_))
  refine okb E0 (okj (okt rfl ?_))
  refine okb C0 (okf one_ne ?_)
  exact (joins_m hN hS hv e144 pa pc).bind (fun t ht => Ok.some ht)
theorem sq_1001 {τ s : gSt} {N : Nat} {lv v : Int32} {B : Nat → Int32} {M : Nat → Nat} {k : Nat} (hN : 288 < N) (hS : MS τ lv B M s) (hv : v.toInt = k) (e12 : (v + 12).toInt = (k + 12 : Nat)) (e144 : (144 + v).toInt = (144 + k : Nat)) (e145 : (144 + v + 1).toInt = (145 + k : Nat)) (A0 : f_X10_isGap N s v lv = some 1) (B0 : f_X10_isGap N s (v + 12) lv = some 0) (C0 : f_X10_isGap N s (144 + v) lv = some 0) (E0 : f_X10_isGap N s (144 + v + 1) lv = some 1) (pa : gapP τ lv k) (pe : gapP τ lv (145 + k)) : Ok (MS τ lv B (relab M k (145 + k))) (f_X10_joinsSquare N s v lv) := by
  unfold f_X10_joinsSquare
  refine okb A0 (okj (okf one_ne ?_))
  refine okb B0 (okj (okt rfl ?_))
  refine okb C0 (okj (okt rfl ?_))
  refine okb E0 (okj (okf one_ne ?_))
  refine okf (show ¬ (1 + 0 + 0 + 1 : Int32) = 4 by decide) (okt (show (1 + 0 + 0 + 1 : Int32) = 2 by decide) ?_)
  refine okb A0 (okj (okf one_ne ?_))
  refine okb E0 (okj (okf one_ne ?_))
  exact (joins_m hN hS hv e145 pa pe).bind (fun t ht => Ok.some ht)
theorem sq_0110 {τ s : gSt} {N : Nat} {lv v : Int32} {B : Nat → Int32} {M : Nat → Nat} {k : Nat} (hN : 288 < N) (hS : MS τ lv B M s) (hv : v.toInt = k) (e12 : (v + 12).toInt = (k + 12 : Nat)) (e144 : (144 + v).toInt = (144 + k : Nat)) (e145 : (144 + v + 1).toInt = (145 + k : Nat)) (A0 : f_X10_isGap N s v lv = some 0) (B0 : f_X10_isGap N s (v + 12) lv = some 1) (C0 : f_X10_isGap N s (144 + v) lv = some 1) (E0 : f_X10_isGap N s (144 + v + 1) lv = some 0) (pb : gapP τ lv (k + 12)) (pc : gapP τ lv (144 + k)) : Ok (MS τ lv B (relab M (k + 12) (144 + k))) (f_X10_joinsSquare N s v lv) := by
  unfold f_X10_joinsSquare
  refine okb A0 (okj (okt rfl ?_))
  refine okb B0 (okj (okf one_ne ?_))
  refine okb C0 (okj (okf one_ne ?_))
  refine okb E0 (okj (okt rfl ?_))
  refine okf (show ¬ (0 + 1 + 1 + 0 : Int32) = 4 by decide) (okt (show (0 + 1 + 1 + 0 : Int32) = 2 by decide) ?_)
  refine okb A0 (okj (okt rfl ?_))
  refine okb B0 (okf one_ne ?_)
  refine okb E0 (okj (okt rfl ?_))
  refine okb C0 (okf one_ne ?_)
  exact (joins_m hN hS e12 e144 pb pc).bind (fun t ht => Ok.some ht)
theorem sq_0101 {τ s : gSt} {N : Nat} {lv v : Int32} {B : Nat → Int32} {M : Nat → Nat} {k : Nat} (hN : 288 < N) (hS : MS τ lv B M s) (hv : v.toInt = k) (e12 : (v + 12).toInt = (k + 12 : Nat)) (e144 : (144 + v).toInt = (144 + k : Nat)) (e145 : (144 + v + 1).toInt = (145 + k : Nat)) (A0 : f_X10_isGap N s v lv = some 0) (B0 : f_X10_isGap N s (v + 12) lv = some 1) (C0 : f_X10_isGap N s (144 + v) lv = some 0) (E0 : f_X10_isGap N s (144 + v + 1) lv = some 1) (pb : gapP τ lv (k + 12)) (pe : gapP τ lv (145 + k)) : Ok (MS τ lv B (relab M (k + 12) (145 + k))) (f_X10_joinsSquare N s v lv) := by
  unfold f_X10_joinsSquare
  refine okb A0 (okj (okt rfl ?_))
  refine okb B0 (okj (okf one_ne ?_))
  refine okb C0 (okj (okt rfl ?_))
  refine okb E0 (okj (okf one_ne ?_))
  refine okf (show ¬ (0 + 1 + 0 + 1 : Int32) = 4 by decide) (okt (show (0 + 1 + 0 + 1 : Int32) = 2 by decide) ?_)
  refine okb A0 (okj (okt rfl ?_))
  refine okb B0 (okf one_ne ?_)
  refine okb E0 (okj (okf one_ne ?_))
  exact (joins_m hN hS e12 e145 pb pe).bind (fun t ht => Ok.some ht)
theorem sq_0011 {τ s : gSt} {N : Nat} {lv v : Int32} {B : Nat → Int32} {M : Nat → Nat} {k : Nat} (hN : 288 < N) (hS : MS τ lv B M s) (hv : v.toInt = k) (e12 : (v + 12).toInt = (k + 12 : Nat)) (e144 : (144 + v).toInt = (144 + k : Nat)) (e145 : (144 + v + 1).toInt = (145 + k : Nat)) (A0 : f_X10_isGap N s v lv = some 0) (B0 : f_X10_isGap N s (v + 12) lv = some 0) (C0 : f_X10_isGap N s (144 + v) lv = some 1) (E0 : f_X10_isGap N s (144 + v + 1) lv = some 1) (pc : gapP τ lv (144 + k)) (pe : gapP τ lv (145 + k)) : Ok (MS τ lv B (relab M (144 + k) (145 + k))) (f_X10_joinsSquare N s v lv) := by
  unfold f_X10_joinsSquare
  refine okb A0 (okj (okt rfl ?_))
  refine okb B0 (okj (okt rfl ?_))
  refine okb C0 (okj (okf one_ne ?_))
  refine okb E0 (okj (okf one_ne ?_))
  refine okf (show ¬ (0 + 0 + 1 + 1 : Int32) = 4 by decide) (okt (show (0 + 0 + 1 + 1 : Int32) = 2 by decide) ?_)
  refine okb A0 (okj (okt rfl ?_))
  refine okb B0 (okt rfl ?_)
  refine okb E0 (okj (okf one_ne ?_))
  exact (joins_m hN hS e144 e145 pc pe).bind (fun t ht => Ok.some ht)
theorem sq_0000 {τ s : gSt} {N : Nat} {lv v : Int32} {B : Nat → Int32} {M : Nat → Nat} {k : Nat} (hN : 288 < N) (hS : MS τ lv B M s) (hv : v.toInt = k) (e12 : (v + 12).toInt = (k + 12 : Nat)) (e144 : (144 + v).toInt = (144 + k : Nat)) (e145 : (144 + v + 1).toInt = (145 + k : Nat)) (A0 : f_X10_isGap N s v lv = some 0) (B0 : f_X10_isGap N s (v + 12) lv = some 0) (C0 : f_X10_isGap N s (144 + v) lv = some 0) (E0 : f_X10_isGap N s (144 + v + 1) lv = some 0) : Ok (MS τ lv B M) (f_X10_joinsSquare N s v lv) := by
  unfold f_X10_joinsSquare
  refine okb A0 (okj (okt rfl ?_))
  refine okb B0 (okj (okt rfl ?_))
  refine okb C0 (okj (okt rfl ?_))
  refine okb E0 (okj (okt rfl ?_))
  exact okf (show ¬ (0 + 0 + 0 + 0 : Int32) = 4 by decide) (okf (show ¬ (0 + 0 + 0 + 0 : Int32) = 2 by decide) (Ok.some hS))
theorem square_m {τ s : gSt} {N : Nat} {lv v : Int32} {B : Nat → Int32} {M : Nat → Nat} {k : Nat} (hT : InvT τ) (hN : 288 < N) (hl : 1 ≤ lv.toInt ∧ lv.toInt ≤ 255) (hS : MS τ lv B M s) (hv : v.toInt = k) (hk : sqIn τ k) : Ok (MS τ lv B (sqF τ lv k M)) (f_X10_joinsSquare N s v lv) := by
  have hT2 := hT
  obtain ⟨w1, w2, w3, w4, hh, -⟩ := hT2
  have hk1 := hk.1
  have hk2 := hk.2
  have hkk : k < 132 := by omega
  obtain ⟨ga, gb, gc, ge⟩ := sq_gaps (lv := lv) hT hk
  have hM := hS.1.mp
  have e12 : (v + 12).toInt = (k + 12 : Nat) := ofn_lit (d := 12) hv (by omega) (by omega)
  have e1 : (v + 1).toInt = (k + 1 : Nat) := ofn_lit (d := 1) hv (by omega) (by omega)
  have e13 : (v + 13).toInt = (k + 13 : Nat) := ofn_lit (d := 13) hv (by omega) (by omega)
  have e144 : (144 + v).toInt = (144 + k : Nat) := by rw [tadd (by rw [hv, tl144]; omega), hv, tl144]; omega
  have e145 : (144 + v + 1).toInt = (145 + k : Nat) := by rw [tadd (by rw [e144, tl1]; omega), e144, tl1]; omega
  have A1 : gapP τ lv k → f_X10_isGap N s v lv = some 1 := fun h => isGap_m (r := some 1) hT hM (by omega) (fun _ => rfl) (fun g => absurd (by rw [hv]; exact h) g)
  have A0 : ¬ gapP τ lv k → f_X10_isGap N s v lv = some 0 := fun h => isGap_m (r := some 0) hT hM (by omega) (fun g => absurd (by rw [hv] at g; exact g) h) (fun _ => rfl)
  have B1 : gapP τ lv (k + 12) → f_X10_isGap N s (v + 12) lv = some 1 := fun h => isGap_m (r := some 1) hT hM (by omega) (fun _ => rfl) (fun g => absurd (by rw [e12]; exact h) g)
  have B0 : ¬ gapP τ lv (k + 12) → f_X10_isGap N s (v + 12) lv = some 0 := fun h => isGap_m (r := some 0) hT hM (by omega) (fun g => absurd (by rw [e12] at g; exact g) h) (fun _ => rfl)
  have C1 : gapP τ lv (144 + k) → f_X10_isGap N s (144 + v) lv = some 1 := fun h => isGap_m (r := some 1) hT hM (by omega) (fun _ => rfl) (fun g => absurd (by rw [e144]; exact h) g)
  have C0 : ¬ gapP τ lv (144 + k) → f_X10_isGap N s (144 + v) lv = some 0 := fun h => isGap_m (r := some 0) hT hM (by omega) (fun g => absurd (by rw [e144] at g; exact g) h) (fun _ => rfl)
  have E1 : gapP τ lv (145 + k) → f_X10_isGap N s (144 + v + 1) lv = some 1 := fun h => isGap_m (r := some 1) hT hM (by omega) (fun _ => rfl) (fun g => absurd (by rw [e145]; exact h) g)
  have E0 : ¬ gapP τ lv (145 + k) → f_X10_isGap N s (144 + v + 1) lv = some 0 := fun h => isGap_m (r := some 0) hT hM (by omega) (fun g => absurd (by rw [e145] at g; exact g) h) (fun _ => rfl)
  unfold sqF
  rw [cif_pos hk]
  by_cases pa : gapP τ lv k <;> by_cases pb : gapP τ lv (k + 12) <;> by_cases pc : gapP τ lv (144 + k) <;> by_cases pe : gapP τ lv (145 + k)
  · rw [cif_pos ⟨pa, pb, pc, pe⟩]
    exact sq_1111 hN hS hv e12 e144 e145 (A1 pa) (B1 pb) (C1 pc) (E1 pe) pa pb pc pe hT hl hk e1 e13 (by omega)
  · exact (par14 ga gb gc ge pa pb pc pe).elim
  · exact (par13 ga gb gc ge pa pb pc pe).elim
  · rw [cif_neg (fun h => pc h.2.2.1), cif_pos (Or.inl pa), cif_pos pa, cif_neg pe, cif_neg pc]
    exact sq_1100 hN hS hv e12 e144 e145 (A1 pa) (B1 pb) (C0 pc) (E0 pe) pa pb
  · exact (par11 ga gb gc ge pa pb pc pe).elim
  · rw [cif_neg (fun h => pb h.2.1), cif_pos (Or.inl pa), cif_pos pa, cif_neg pe, cif_pos pc]
    exact sq_1010 hN hS hv e12 e144 e145 (A1 pa) (B0 pb) (C1 pc) (E0 pe) pa pc
  · rw [cif_neg (fun h => pb h.2.1), cif_pos (Or.inl pa), cif_pos pa, cif_pos pe]
    exact sq_1001 hN hS hv e12 e144 e145 (A1 pa) (B0 pb) (C0 pc) (E1 pe) pa pe
  · exact (par8 ga gb gc ge pa pb pc pe).elim
  · exact (par7 ga gb gc ge pa pb pc pe).elim
  · rw [cif_neg (fun h => pa h.1), cif_pos (Or.inr (Or.inl pb)), cif_neg pa, cif_pos pb, cif_neg pe, cif_pos pc]
    exact sq_0110 hN hS hv e12 e144 e145 (A0 pa) (B1 pb) (C1 pc) (E0 pe) pb pc
  · rw [cif_neg (fun h => pa h.1), cif_pos (Or.inr (Or.inl pb)), cif_neg pa, cif_pos pb, cif_pos pe]
    exact sq_0101 hN hS hv e12 e144 e145 (A0 pa) (B1 pb) (C0 pc) (E1 pe) pb pe
  · exact (par4 ga gb gc ge pa pb pc pe).elim
  · rw [cif_neg (fun h => pa h.1), cif_pos (Or.inr (Or.inr (Or.inl pc))), cif_neg pa, cif_neg pb, cif_pos pe]
    exact sq_0011 hN hS hv e12 e144 e145 (A0 pa) (B0 pb) (C1 pc) (E1 pe) pc pe
  · exact (par2 ga gb gc ge pa pb pc pe).elim
  · exact (par1 ga gb gc ge pa pb pc pe).elim
  · rw [cif_neg (fun h => pa h.1), cif_neg (fun h => h.elim pa (fun h => h.elim pb (fun h => h.elim pc pe)))]
    exact sq_0000 hN hS hv e12 e144 e145 (A0 pa) (B0 pb) (C0 pc) (E0 pe) 
