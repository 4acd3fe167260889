/-! ===== pure: the law's own loop, over two clubs of which one is turned ===== -/
theorem okg1 {X T : Type} {P : T → Prop} {k : X → Option T} {t : (X → Option T) → Option T} (hk : ∀ x, Ok P (k x)) (ht : ∀ j : X → Option T, (∀ x, Ok P (j x)) → Ok P (t j)) : Ok P (gJoin1 k t) := ht k hk
theorem okg2 {X Y T : Type} {P : T → Prop} {k : X → Y → Option T} {t : (X → Y → Option T) → Option T} (Q : X → Y → Prop) (hk : ∀ x y, Q x y → Ok P (k x y)) (ht : ∀ j : X → Y → Option T, (∀ x y, Q x y → Ok P (j x y)) → Ok P (t j)) : Ok P (gJoin2 k t) := ht k hk
theorem okgz {T : Type} {P : T → Prop} {k : Option T} {t : Option T → Option T} (hk : Ok P k) (ht : ∀ j : Option T, Ok P j → Ok P (t j)) : Ok P (gJoin0 k t) := ht k hk
theorem okg1' {X T : Type} {P : T → Prop} {k : X → Option T} {t : (X → Option T) → Option T} (Q : X → Prop) (hk : ∀ x, Q x → Ok P (k x)) (ht : ∀ j : X → Option T, (∀ x, Q x → Ok P (j x)) → Ok P (t j)) : Ok P (gJoin1 k t) := ht k hk
section Law
variable {N : Nat} {T : Type} {P : T → Prop}
theorem leafL {oa ob : Option (Int32 × gSt)} {c : Nat → Int32} {jn : Int32 → lSt → Option T} (h : R2 oa ob) (JN : ∀ s : lSt, Two s.1 s.2.1 → Ok P (jn 1 s)) : Ok P (oa.bind (fun (q : Int32 × gSt) => ob.bind (fun (r : Int32 × gSt) => gJoin1 (fun (w : Int32) => jn w (q.2, r.2, c)) (fun j => if q.1 = r.1 then j 1 else j 0)))) := by
  obtain ⟨r, s, s', e1, e2, hT⟩ := h
  refine okb e1 (okb e2 (okz ?_))
  exact okt rfl (JN (s, s', c) hT)
theorem case_0 (hN : 1000000000000000000000 < N) {v10 v11 v12 : Int32} {S : lSt} {jn : Int32 → lSt → Option Int32} {P : Int32 → Prop} (h : Two S.1 S.2.1) (JN : ∀ s : lSt, Two s.1 s.2.1 → Ok P (jn 1 s)) : Ok P (h_case0 N v10 v11 v12 S jn) := leafL (two_setHeight hN h _ _ _) JN
theorem case_1 (hN : 1000000000000000000000 < N) {v10 v11 v12 : Int32} {S : lSt} {jn : Int32 → lSt → Option Int32} {P : Int32 → Prop} (h : Two S.1 S.2.1) (JN : ∀ s : lSt, Two s.1 s.2.1 → Ok P (jn 1 s)) : Ok P (h_case1 N v10 v11 v12 S jn) := leafL (two_hill hN h _ _ _ _ _) JN
theorem case_2 (hN : 1000000000000000000000 < N) {v10 v11 v12 : Int32} {S : lSt} {jn : Int32 → lSt → Option Int32} {P : Int32 → Prop} (h : Two S.1 S.2.1) (JN : ∀ s : lSt, Two s.1 s.2.1 → Ok P (jn 1 s)) : Ok P (h_case2 N v10 v11 v12 S jn) := leafL (two_ground hN h _ _ _ _ _) JN
theorem case_3 (hN : 1000000000000000000000 < N) {v11 v12 : Int32} {S : lSt} {jn : Int32 → lSt → Option Int32} {P : Int32 → Prop} (h : Two S.1 S.2.1) (JN : ∀ s : lSt, Two s.1 s.2.1 → Ok P (jn 1 s)) : Ok P (h_case3 N v11 v12 S jn) := leafL (two_control hN h _ _ _) JN
theorem case_4 (hN : 1000000000000000000000 < N) {v10 : Int32} {S : lSt} {jn : Int32 → lSt → Option Int32} {P : Int32 → Prop} (h : Two S.1 S.2.1) (JN : ∀ s : lSt, Two s.1 s.2.1 → Ok P (jn 1 s)) : Ok P (h_case4 N v10 S jn) := leafL (two_visit hN h _ _ _) JN
theorem case_5 (hN : 1000000000000000000000 < N) {v10 : Int32} {S : lSt} {jn : Int32 → lSt → Option Int32} {P : Int32 → Prop} (h : Two S.1 S.2.1) (JN : ∀ s : lSt, Two s.1 s.2.1 → Ok P (jn 1 s)) : Ok P (h_case5 N v10 S jn) := leafL (two_arrange hN h _ _ _) JN
theorem case_6 (hN : 1000000000000000000000 < N) {v10 : Int32} {S : lSt} {jn : Int32 → lSt → Option Int32} {P : Int32 → Prop} (h : Two S.1 S.2.1) (JN : ∀ s : lSt, Two s.1 s.2.1 → Ok P (jn 1 s)) : Ok P (h_case6 N v10 S jn) := by
  obtain ⟨r, s, s', e1, e2, hT⟩ := two_enter hN h (v10 - v10 / 5 * 5) ((v10 / 5) - (v10 / 5) / 3 * 3) 0
  unfold h_case6
  refine okb e1 (okg1 (fun w => okb e2 (okz (okt rfl (JN _ hT)))) (fun j hj => ?_))
  exact Ok.ite (fun _ => hj _) (fun _ => hj _)
theorem case_7 (hN : 1000000000000000000000 < N) {v10 : Int32} {S : lSt} {jn : Int32 → lSt → Option Int32} {P : Int32 → Prop} (h : Two S.1 S.2.1) (JN : ∀ s : lSt, Two s.1 s.2.1 → Ok P (jn 1 s)) : Ok P (h_case7 N v10 S jn) := leafL (two_draw hN h _ _ _) JN
theorem case_8 (hN : 1000000000000000000000 < N) {v10 : Int32} {S : lSt} {jn : Int32 → lSt → Option Int32} {P : Int32 → Prop} (h : Two S.1 S.2.1) (JN : ∀ s : lSt, Two s.1 s.2.1 → Ok P (jn 1 s)) : Ok P (h_case8 N v10 S jn) := by
  unfold h_case8
  by_cases c : (v10 / 8) - (v10 / 8) / 2 * 2 = 0
  · obtain ⟨r, s, s', e1, e2, hT⟩ := two_fail hN h (v10 - v10 / 8 * 8) 1 (Or.inr rfl)
    exact okz (okt c (okb e1 (okz (okt c (okb e2 (okz (okt rfl (JN (s, s', S.2.2) hT))))))))
  · obtain ⟨r, s, s', e1, e2, hT⟩ := two_fail hN h (v10 - v10 / 8 * 8) 0 (Or.inl rfl)
    exact okz (okf c (okb e1 (okz (okf c (okb e2 (okz (okt rfl (JN (s, s', S.2.2) hT))))))))
theorem case_9 (hN : 1000000000000000000000 < N) {v10 : Int32} {S : lSt} {jn : Int32 → lSt → Option Int32} {P : Int32 → Prop} (h : Two S.1 S.2.1) (JN : ∀ s : lSt, Two s.1 s.2.1 → Ok P (jn 1 s)) : Ok P (h_case9 N v10 S jn) := by
  unfold h_case9
  refine okg1 (fun w => leafL (two_punch hN h _ _ _) JN) (fun j hj => ?_)
  by_cases c : S.2.2 0 = 0
  · exact okt c (hj _)
  · exact okf c (okf c (hj _))
/-- what same leaves: 1, and the clubs as they were to one another -/
def SmQ (q : Int32 × lSt) : Prop := q.1 = 1 ∧ Two q.2.1 q.2.2.1
theorem same_ok (hN : 1000000000000000000000 < N) {S : lSt} {x3 : Int32} (h : Two S.1 S.2.1) : Ok SmQ (h_same N S x3) := by
  unfold h_same
  refine okg2 (fun x s => x = 1 ∧ Two s.1 s.2.1) ?_ ?_
  · rintro _ s ⟨rfl, hs⟩
    refine okg1 (fun w5 => ?_) (fun j hj => ?_)
    · refine gLoop3_ok (fun (n : Nat) (v4 v6 : Int32) (s : lSt) => v4 = 1 ∧ Two s.1 s.2.1 ∧ 0 ≤ v6.toInt ∧ v6.toInt + n = 9) ?_ 10 9 1 0 s (by omega) ⟨rfl, hs, by rw [tl0]; omega, by rw [tl0]; omega⟩
      rintro n _ v6 s self ⟨rfl, hs, h0, h9⟩ hself
      refine okgz ?_ (fun j hj => ?_)
      · refine gLoop3_ok (fun (n : Nat) (v4 v6 : Int32) (s : lSt) => v4 = 1 ∧ Two s.1 s.2.1 ∧ 1 ≤ v6.toInt ∧ v6.toInt + n = 8) ?_ 8 7 1 1 s (by omega) ⟨rfl, hs, by rw [tl1]; omega, by rw [tl1]; omega⟩
        rintro n _ v6 s self ⟨rfl, hs, h0, h8⟩ hself
        refine Ok.ite (fun _ => Ok.some ⟨show (1 : Int32) &&& 1 = 1 by decide, hs⟩) (fun c => ?_)
        rw [tle, show (8 : Int32).toInt = 8 from rfl] at c
        refine okf (by decide) (okg1 (fun w => ?_) (fun j hj => ?_))
        · obtain ⟨r, a, b, e1, e2, hT⟩ := two_ats hN hs v6 w ((x3 / 91) - (x3 / 91) / 6 * 6) (by rw [teq, tl0]; omega)
          refine okb e1 (okb e2 (okz (okt rfl ?_)))
          have e := inc1 (v := v6) (n := 8) (by omega) (by omega)
          exact hself (n - 1) 1 (v6 + 1) (a, b, s.2.2) (by omega) ⟨rfl, hT, by omega, by omega⟩
        · exact Ok.ite (fun _ => Ok.ite (fun _ => hj _) (fun _ => hj _)) (fun _ => hj _)
      · refine Ok.ite (fun _ => hj) (fun c => ?_)
        rw [tle, show (9 : Int32).toInt = 9 from rfl] at c
        refine okf (by decide) (okg1 (fun w => ?_) (fun j hj => ?_))
        · obtain ⟨r, a, b, e1, e2, hT⟩ := two_ofs hN hs v6 w
          refine okb e1 (okb e2 (okz (okt rfl ?_)))
          have e := inc1 (v := v6) (n := 9) (by omega) (by omega)
          exact hself (n - 1) 1 (v6 + 1) (a, b, s.2.2) (by omega) ⟨rfl, hT, by omega, by omega⟩
        · exact Ok.ite (fun _ => Ok.ite (fun _ => hj _) (fun _ => hj _)) (fun _ => hj _)
    · exact Ok.ite (fun _ => hj _) (fun c => okf c (hj _))
  · intro j hj
    refine okz (okt (two_runners h) ?_)
    obtain ⟨r, a, b, e1, e2, hT⟩ := two_spread hN h
    refine okb e1 (okb e2 (okt rfl ?_))
    obtain ⟨r', a', b', f1, f2, hT'⟩ := two_cell hN hT (x3 - x3 / 12 * 12) ((x3 / 12) - (x3 / 12) / 12 * 12)
    exact okb f1 (okb f2 (okt rfl (hj 1 (a', b', S.2.2) ⟨rfl, hT'⟩)))
theorem law_ok (hN : 1000000000000000000000 < N) {L : Nat} {xs : Nat → Int32} {v1 v2 : Int32} {S : lSt} (h1 : ¬ v1 = 0) (h2 : ¬ v2 = 0) (h : Two S.1 S.2.1) : Ok (fun r => r = 1) (h_law N L xs v1 v2 S) := by
  unfold h_law
  refine gLoop3_ok (fun (n : Nat) (v6 v7 : Int32) (s : lSt) => v6 = 1 ∧ Two s.1 s.2.1 ∧ 0 ≤ v7.toInt ∧ v7.toInt + n = 120) ?_ 121 120 1 0 S (by omega) ⟨rfl, h, by rw [tl0]; omega, by rw [tl0]; omega⟩
  rintro n _ v7 s self ⟨rfl, hs, h0, hn⟩ hself
  refine Ok.ite (fun _ => Ok.some rfl) (fun c => ?_)
  rw [tle, show (120 : Int32).toInt = 120 from rfl] at c
  have t60 : (60 : Int32).toInt = 60 := rfl
  have d60 : (v7 / 60).toInt = v7.toInt / 60 := by rw [tdiv' h0 (by rw [t60]; omega), t60]
  have m60 : (v7 / 60 * 60).toInt = v7.toInt / 60 * 60 := by rw [tmul (by rw [d60, t60]; omega), d60, t60]
  have r60 : (v7 - v7 / 60 * 60).toInt = v7.toInt % 60 := by rw [tsub (by rw [m60]; omega), m60]; omega
  have p60 : (1 + v7 / 60).toInt = 1 + v7.toInt / 60 := by rw [tadd (by rw [d60, tl1]; omega), d60, tl1]
  refine okf (by decide) (okf (by rw [tlt, r60, tl0]; omega) (okf (by rw [teq, p60, tl0]; omega) ?_))
  have e := inc1 (v := v7) (n := 120) (by omega) (by omega)
  have next : ∀ s : lSt, Two s.1 s.2.1 → Ok (fun r => r = 1) (self 1 (v7 + 1) s) := fun s hs => hself (n - 1) 1 (v7 + 1) s (by omega) ⟨rfl, hs, by omega, by omega⟩
  refine okg1 (fun w => ?_) (fun j hj => Ok.ite (fun _ => hj _) (fun _ => hj _))
  refine okf h1 (okf h2 (okg2 (fun x s => x = 1 ∧ Two s.1 s.2.1) ?_ ?_))
  · rintro _ s ⟨rfl, hs⟩
    refine okg2 (fun x s => x = 1 ∧ Two s.1 s.2.1) (fun x s hx => by rw [hx.1]; exact next s hx.2) (fun j hj => ?_)
    refine okz (okf (by decide) (okg1' (fun s => Two s.1 s.2.1) (fun s hs => hj 1 s ⟨rfl, hs⟩) (fun j hj => ?_)))
    refine Ok.ite (fun _ => hj s hs) (fun _ => ?_)
    obtain ⟨⟨q, s'⟩, e1, hq, hT⟩ := same_ok hN (x3 := (((h_drawn L xs (v7 - v7 / 60 * 60)) / (1 + (v7 / 60))) + (7 * (v7 / 60))) / 3) hs
    have hq : q = 1 := hq
    rw [hq] at e1
    exact okb e1 (okf one_ne (hj s' hT))
  · intro j hj
    have JN : ∀ s : lSt, Two s.1 s.2.1 → Ok (fun r => r = 1) (j 1 s) := fun s hs => hj 1 s ⟨rfl, hs⟩
    refine Ok.ite (fun _ => ?_) (fun _ => case_0 hN hs JN)
    refine Ok.ite (fun _ => ?_) (fun _ => case_1 hN hs JN)
    refine Ok.ite (fun _ => ?_) (fun _ => case_2 hN hs JN)
    refine Ok.ite (fun _ => ?_) (fun _ => case_3 hN hs JN)
    refine Ok.ite (fun _ => ?_) (fun _ => case_4 hN hs JN)
    refine Ok.ite (fun _ => case_5 hN hs JN) (fun _ => ?_)
    refine Ok.ite (fun _ => ?_) (fun _ => case_6 hN hs JN)
    refine Ok.ite (fun _ => ?_) (fun _ => case_7 hN hs JN)
    exact Ok.ite (fun _ => case_8 hN hs JN) (fun _ => case_9 hN hs JN)
end Law
/-! ===== pure: the start: a club, and one whose sides are changed with one another ===== -/
theorem tr_start (u0 u1 : Int32) : Tr (S0m u0 u1) (S0m u1 u0) := by
  have hr : ∀ r, (S0m u1 u0).1 r = (S0m u0 u1).1 r := fun r => rfl
  refine ⟨⟨by rw [s0m_0, s0m_1], by rw [s0m_1, s0m_0], ?_, ?_, ?_⟩, fun k _ => ?_, fun k _ => ?_, fun k hk => ?_, fun r _ _ => hr r⟩
  · rw [s0m_i (by decide) (by decide), s0m_i (by decide) (by decide)]
  · rw [s0m_i (by decide) (by decide), s0m_i (by decide) (by decide)]
  · rw [s0m_i (by decide) (by decide), s0m_i (by decide) (by decide)]
  · rw [s0m_n (by decide), s0m_n (by decide)]
  · rw [s0m_n (by decide), s0m_n (by decide)]
  · rw [s0m_i (by decide) (by decide), tl0] at hk
    omega
theorem two_start (u0 u1 : Int32) : Two (S0c u0 u1) (S0c u1 u0) := ⟨_, _, rel_start u0 u1, rel_start u1 u0, tr_start u0 u1⟩
theorem mask_nn (x : Int32) : 0 ≤ (x &&& 1073741823).toInt := by
  have h : (x &&& 1073741823).toBitVec.toNat ≤ 1073741823 := by
    rw [Int32.toBitVec_and, BitVec.toNat_and]
    exact Nat.and_le_right
  show 0 ≤ (x &&& 1073741823).toBitVec.toInt
  rw [BitVec.toInt_eq_toNat_of_lt (by omega)]
  omega
theorem side_ne {L : Nat} {xs : Nat → Int32} {k : Int32} : ¬ h_side L xs k = 0 := by
  have h0 : 0 ≤ (h_drawn L xs k).toInt := mask_nn _
  have hr := tR (h_drawn L xs k)
  have d : (h_drawn L xs k / 11).toInt = (h_drawn L xs k).toInt / 11 := by rw [tdiv' h0 (by rw [tl11]; omega), tl11]
  have m : (h_drawn L xs k / 11 * 11).toInt = (h_drawn L xs k).toInt / 11 * 11 := by rw [tmul (by rw [d, tl11]; omega), d, tl11]
  have r : (h_drawn L xs k - h_drawn L xs k / 11 * 11).toInt = (h_drawn L xs k).toInt % 11 := by rw [tsub (by rw [m]; omega), m]; omega
  have e : (h_side L xs k).toInt = 2 + (h_drawn L xs k).toInt % 11 := by
    unfold h_side
    rw [tadd (by rw [r, tl2]; omega), r, tl2]
  rw [teq, e, tl0]
  omega
/-- the law says 1 -/
theorem slant_main {L : Nat} {xs : Nat → Int32} : ∃ N, h_law N L xs (h_side L xs 61) (h_side L xs 62) (S0L (h_side L xs 61) (h_side L xs 62)) = some 1 := by
  obtain ⟨r, h, rfl⟩ := law_ok (N := 1000000000000000000001) (by decide) (L := L) (xs := xs) (v1 := h_side L xs 61) (v2 := h_side L xs 62) (S := S0L (h_side L xs 61) (h_side L xs 62)) side_ne side_ne (two_start _ _)
  exact ⟨_, h⟩
