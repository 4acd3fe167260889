/-! a reference of our own for the pure side: the document's calls as functions over rows of numbers (made for the row whole; nothing here is of the machine) -/
/-- SpurlineModel.thrown()I -/
def f_X10_thrown (σ : gSt) : Int32 :=
  σ.2 6
/-- SpurlineModel.in(III)Z -/
def f_X10_in (x0 x1 x2 : Int32) : Int32 :=
  if x0 < x1 then
    0
  else
    if x2 < x0 then
      0
    else
      1
/-- SpurlineModel.asked(Z)Z -/
def f_X10_asked (σ : gSt) (x1 : Int32) : Int32 × gSt :=
  gJoin1 (fun (w0_10 : Int32) =>
      (x1 &&& 1, g_sf σ 6 w0_10)) (fun j10 =>
    if x1 = 0 then
      j10 1
    else
      j10 0)
/-- SpurlineModel.asked(ZZ)Z -/
def f_X10_asked_ (σ : gSt) (x1 x2 : Int32) : Int32 × gSt :=
  gJoin1 (fun (w0_18 : Int32) =>
      if (g_sf σ 6 w0_18).2 6 = 0 then
        (1, g_sf σ 6 w0_18)
      else
        (0, g_sf σ 6 w0_18)) (fun j18 =>
    if x1 = 0 then
      j18 1
    else
      if x2 = 0 then
        j18 2
      else
        j18 0)
/-- SpurlineModel.asked(ZZZ)Z -/
def f_X10_asked__ (σ : gSt) (x1 x2 x3 : Int32) : Int32 × gSt :=
  gJoin1 (fun (w0_26 : Int32) =>
      if (g_sf σ 6 w0_26).2 6 = 0 then
        (1, g_sf σ 6 w0_26)
      else
        (0, g_sf σ 6 w0_26)) (fun j26 =>
    if x1 = 0 then
      j26 1
    else
      if x2 = 0 then
        j26 2
      else
        if x3 = 0 then
          j26 3
        else
          j26 0)
/-- SpurlineModel.isCell(II)Z -/
def f_X10_isCell (σ : gSt) (x1 x2 : Int32) : Int32 :=
  if f_X10_in x1 0 ((σ.2 0) - 1) = 0 then
    0
  else
    if f_X10_in x2 0 ((σ.2 1) - 1) = 0 then
      0
    else
      1
/-- SpurlineModel.isControl(I)Z -/
def f_X10_isControl (σ : gSt) (x1 : Int32) : Int32 :=
  (f_X10_in x1 0 ((σ.2 2) - 1)) &&& 1
/-- SpurlineModel.isClass(I)Z -/
def f_X10_isClass (x0 : Int32) : Int32 :=
  (f_X10_in x0 0 4) &&& 1
/-- SpurlineModel.isRunner(I)Z -/
def f_X10_isRunner (σ : gSt) (x1 : Int32) : Int32 :=
  (f_X10_in x1 0 ((σ.2 3) - 1)) &&& 1
/-- SpurlineModel.setHeight(III)I -/
def f_X10_setHeight (N : Nat) (σ : gSt) (x1 x2 x3 : Int32) : Option (Int32 × gSt) :=
  if (f_X10_asked_ σ (f_X10_isCell σ x1 x2) (f_X10_in x3 0 255)).1 = 0 then
    some (0, (f_X10_asked_ σ (f_X10_isCell σ x1 x2) (f_X10_in x3 0 255)).2)
  else
    if (12 * x2) + x1 < 0 ∨ 144 ≤ ((12 * x2) + x1).toNatClampNeg then none else
    if (12 * x2) + x1 < 0 ∨ 144 ≤ ((12 * x2) + x1).toNatClampNeg then none else
    some (g_ga ((f_X10_asked_ σ (f_X10_isCell σ x1 x2) (f_X10_in x3 0 255)).2) 0 ((12 * x2) + x1), g_pa ((f_X10_asked_ σ (f_X10_isCell σ x1 x2) (f_X10_in x3 0 255)).2) 0 ((12 * x2) + x1) x3)
/-- SpurlineModel.apart(II)I -/
def f_X10_apart (x0 x1 : Int32) : Int32 :=
  if x1 ≤ x0 then
    x0 - x1
  else
    x1 - x0
/-- SpurlineModel.hill(IIII)I -/
def f_X10_hill (N : Nat) (σ : gSt) (x1 x2 x3 x4 : Int32) : Option (Int32 × gSt) :=
  gJoin1 (fun (w0_35 : Int32) =>
      if (f_X10_asked_ σ (f_X10_isCell σ x1 x2) w0_35).1 = 0 then
        some (0, (f_X10_asked_ σ (f_X10_isCell σ x1 x2) w0_35).2)
      else
        gLoop3 (fun self49 (v5_49 : Int32) (v6_49 : Int32) (s_49 : gSt) =>
          if 144 ≤ v6_49 then
            some (v5_49, s_49)
          else
            gJoin1 (fun (w0_99 : Int32) =>
                gJoin2 (fun (v5_151 : Int32) (s_151 : gSt) =>
                    self49 v5_151 (v6_49 + 1) s_151) (fun j151 =>
                  if f_X10_isCell s_49 (v6_49 - v6_49 / 12 * 12) (v6_49 / 12) = 0 then
                    j151 v5_49 s_49
                  else
                    if v6_49 < 0 ∨ 144 ≤ v6_49.toNatClampNeg then none else
                    if x3 - (x4 * w0_99) ≤ g_ga s_49 0 v6_49 then
                      j151 v5_49 s_49
                    else
                      if v6_49 < 0 ∨ 144 ≤ v6_49.toNatClampNeg then none else
                      j151 (v5_49 + 1) (g_pa s_49 0 v6_49 (x3 - (x4 * w0_99))))) (fun j99 =>
              if f_X10_apart (v6_49 - v6_49 / 12 * 12) x1 ≤ f_X10_apart (v6_49 / 12) x2 then
                j99 (f_X10_apart (v6_49 / 12) x2)
              else
                j99 (f_X10_apart (v6_49 - v6_49 / 12 * 12) x1))) N 0 0 ((f_X10_asked_ σ (f_X10_isCell σ x1 x2) w0_35).2)) (fun j35 =>
  gJoin0 (
      j35 0) (fun j34 =>
    if f_X10_in x3 0 255 = 0 then
      j34
    else
      if f_X10_in x4 1 255 = 0 then
        j34
      else
        j35 1))
/-- SpurlineModel.setGround(IIIII)I -/
def f_X10_setGround (N : Nat) (σ : gSt) (x1 x2 x3 x4 x5 : Int32) : Option (Int32 × gSt) :=
  gJoin1 (fun (w0_25 : Int32) =>
      gJoin1 (fun (w0_51 : Int32) =>
          if (f_X10_asked_ σ w0_25 w0_51).1 = 0 then
            some (0, (f_X10_asked_ σ w0_25 w0_51).2)
          else
            gLoop3 (fun self65 (v6_65 : Int32) (v7_65 : Int32) (s_65 : gSt) =>
              if 144 ≤ v7_65 then
                some (v6_65, s_65)
              else
                gJoin2 (fun (v6_131 : Int32) (s_131 : gSt) =>
                    self65 v6_131 (v7_65 + 1) s_131) (fun j131 =>
                  if f_X10_in (v7_65 - v7_65 / 12 * 12) x1 x3 = 0 then
                    j131 v6_65 s_65
                  else
                    if f_X10_in (v7_65 / 12) x2 x4 = 0 then
                      j131 v6_65 s_65
                    else
                      if v7_65 < 0 ∨ 144 ≤ v7_65.toNatClampNeg then none else
                      gJoin1 (fun (w0_119 : Int32) =>
                          if v7_65 < 0 ∨ 144 ≤ v7_65.toNatClampNeg then none else
                          j131 (v6_65 + w0_119) (g_pa s_65 1 v7_65 x5)) (fun j119 =>
                        if g_ga s_65 1 v7_65 = x5 then
                          j119 0
                        else
                          j119 1))) N 0 0 ((f_X10_asked_ σ w0_25 w0_51).2)) (fun j51 =>
      gJoin0 (
          j51 0) (fun j50 =>
        if x3 < x1 then
          j50
        else
          if x4 < x2 then
            j50
          else
            if f_X10_in x5 0 4 = 0 then
              j50
            else
              j51 1))) (fun j25 =>
  gJoin0 (
      j25 0) (fun j24 =>
    if f_X10_isCell σ x1 x2 = 0 then
      j24
    else
      if f_X10_isCell σ x3 x4 = 0 then
        j24
      else
        j25 1))
/-- SpurlineModel.cell(II)I -/
def f_X10_cell (N : Nat) (σ : gSt) (x1 x2 : Int32) : Option (Int32 × gSt) :=
  if (f_X10_asked σ (f_X10_isCell σ x1 x2)).1 = 0 then
    some (0, (f_X10_asked σ (f_X10_isCell σ x1 x2)).2)
  else
    if (12 * x2) + x1 < 0 ∨ 144 ≤ ((12 * x2) + x1).toNatClampNeg then none else
    if (12 * x2) + x1 < 0 ∨ 144 ≤ ((12 * x2) + x1).toNatClampNeg then none else
    some ((10 * (g_ga ((f_X10_asked σ (f_X10_isCell σ x1 x2)).2) 0 ((12 * x2) + x1))) + (g_ga ((f_X10_asked σ (f_X10_isCell σ x1 x2)).2) 1 ((12 * x2) + x1)), (f_X10_asked σ (f_X10_isCell σ x1 x2)).2)
/-- SpurlineModel.isGap(II)Z -/
def f_X10_isGap (N : Nat) (σ : gSt) (x1 x2 : Int32) : Option Int32 :=
  gJoin1 (fun (w0_23 : Int32) =>
      gJoin1 (fun (w0_81 : Int32) =>
          if w0_81 = 0 then
            some 0
          else
            if x1 - x1 / 144 * 144 < 0 ∨ 144 ≤ (x1 - x1 / 144 * 144).toNatClampNeg then none else
            gJoin1 (fun (w0_103 : Int32) =>
                if w0_23 < 0 ∨ 144 ≤ w0_23.toNatClampNeg then none else
                gJoin1 (fun (w0_119 : Int32) =>
                    if w0_103 = w0_119 then
                      some 0
                    else
                      some 1) (fun j119 =>
                  if g_ga σ 0 w0_23 < x2 then
                    j119 0
                  else
                    j119 1)) (fun j103 =>
              if g_ga σ 0 (x1 - x1 / 144 * 144) < x2 then
                j103 0
              else
                j103 1)) (fun j81 =>
      gJoin0 (
          j81 0) (fun j80 =>
        if f_X10_isCell σ ((x1 - x1 / 144 * 144) - (x1 - x1 / 144 * 144) / 12 * 12) ((x1 - x1 / 144 * 144) / 12) = 0 then
          j80
        else
          gJoin0 (
              j81 1) (fun j76 =>
            if 144 ≤ x1 then
              if σ.2 1 ≤ ((x1 - x1 / 144 * 144) / 12) + 1 then
                j80
              else
                j76
            else
              if σ.2 0 ≤ ((x1 - x1 / 144 * 144) - (x1 - x1 / 144 * 144) / 12 * 12) + 1 then
                j80
              else
                j76)))) (fun j23 =>
    if 144 ≤ x1 then
      j23 ((x1 - x1 / 144 * 144) + 12)
    else
      j23 ((x1 - x1 / 144 * 144) + 1))
/-- SpurlineModel.joins(II)V -/
def f_X10_joins (N : Nat) (σ : gSt) (x1 x2 : Int32) : Option gSt :=
  if x2 < 0 ∨ 288 ≤ x2.toNatClampNeg then none else
  if x1 < 0 ∨ 288 ≤ x1.toNatClampNeg then none else
  gLoop2 (fun self18 (v5_18 : Int32) (s_18 : gSt) =>
    if 288 ≤ v5_18 then
      some s_18
    else
      if v5_18 < 0 ∨ 288 ≤ v5_18.toNatClampNeg then none else
      gJoin1 (fun (w0_55 : Int32) =>
          if v5_18 < 0 ∨ 288 ≤ v5_18.toNatClampNeg then none else
          self18 (v5_18 + 1) (g_pa s_18 12 v5_18 w0_55)) (fun j55 =>
        if g_ga s_18 12 v5_18 = g_ga σ 12 x2 then
          j55 (g_ga σ 12 x1)
        else
          if v5_18 < 0 ∨ 288 ≤ v5_18.toNatClampNeg then none else
          j55 (g_ga s_18 12 v5_18))) N 0 σ
/-- SpurlineModel.joinsSquare(II)V -/
def f_X10_joinsSquare (N : Nat) (σ : gSt) (x1 x2 : Int32) : Option gSt :=
  (f_X10_isGap N σ x1 x2).bind (fun (r_27 : Int32) =>
  gJoin1 (fun (w0_38 : Int32) =>
      (f_X10_isGap N σ (x1 + 12) x2).bind (fun (r_42 : Int32) =>
      gJoin1 (fun (w0_53 : Int32) =>
          (f_X10_isGap N σ (144 + x1) x2).bind (fun (r_58 : Int32) =>
          gJoin1 (fun (w0_69 : Int32) =>
              (f_X10_isGap N σ ((144 + x1) + 1) x2).bind (fun (r_74 : Int32) =>
              gJoin1 (fun (w0_85 : Int32) =>
                  if ((w0_38 + w0_53) + w0_69) + w0_85 = 4 then
                    if x1 < 0 ∨ 144 ≤ x1.toNatClampNeg then none else
                    if x1 + 1 < 0 ∨ 144 ≤ (x1 + 1).toNatClampNeg then none else
                    if x1 + 12 < 0 ∨ 144 ≤ (x1 + 12).toNatClampNeg then none else
                    if x1 + 13 < 0 ∨ 144 ≤ (x1 + 13).toNatClampNeg then none else
                    gJoin1 (fun (w0_144 : Int32) =>
                        if x1 < 0 ∨ 144 ≤ x1.toNatClampNeg then none else
                        gJoin1 (fun (w0_161 : Int32) =>
                            gJoin1 (fun (w0_171 : Int32) =>
                                gJoin1 (fun (w0_187 : Int32) =>
                                    (f_X10_joins N σ x1 w0_187).bind (fun (s_187 : gSt) =>
                                    gJoin1 (fun (w0_205 : Int32) =>
                                        (f_X10_joins N s_187 (x1 + 12) w0_205).bind (fun (s_205 : gSt) =>
                                        some s_205)) (fun j205 =>
                                      if w0_171 = 0 then
                                        j205 (144 + x1)
                                      else
                                        j205 ((144 + x1) + 1)))) (fun j187 =>
                                  if w0_171 = 0 then
                                    j187 ((144 + x1) + 1)
                                  else
                                    j187 (144 + x1))) (fun j171 =>
                              if w0_161 = w0_144 then
                                j171 1
                              else
                                j171 0)) (fun j161 =>
                          if x2 ≤ g_ga σ 0 x1 then
                            j161 0
                          else
                            j161 1)) (fun j144 =>
                      if (((g_ga σ 0 x1) + (g_ga σ 0 (x1 + 1))) + (g_ga σ 0 (x1 + 12))) + (g_ga σ 0 (x1 + 13)) < 4 * x2 then
                        j144 0
                      else
                        j144 1)
                  else
                    if ((w0_38 + w0_53) + w0_69) + w0_85 = 2 then
                      (f_X10_isGap N σ x1 x2).bind (fun (r_220 : Int32) =>
                      gJoin1 (fun (w0_247 : Int32) =>
                          (f_X10_isGap N σ ((144 + x1) + 1) x2).bind (fun (r_253 : Int32) =>
                          gJoin1 (fun (w0_281 : Int32) =>
                              (f_X10_joins N σ w0_247 w0_281).bind (fun (s_288 : gSt) =>
                              some s_288)) (fun j281 =>
                            if r_253 = 0 then
                              (f_X10_isGap N σ (144 + x1) x2).bind (fun (r_268 : Int32) =>
                              if r_268 = 0 then
                                j281 (x1 + 12)
                              else
                                j281 (144 + x1))
                            else
                              j281 ((144 + x1) + 1)))) (fun j247 =>
                        if r_220 = 0 then
                          (f_X10_isGap N σ (x1 + 12) x2).bind (fun (r_234 : Int32) =>
                          if r_234 = 0 then
                            j247 (144 + x1)
                          else
                            j247 (x1 + 12))
                        else
                          j247 x1))
                    else
                      some σ) (fun j85 =>
                if r_74 = 0 then
                  j85 0
                else
                  j85 1))) (fun j69 =>
            if r_58 = 0 then
              j69 0
            else
              j69 1))) (fun j53 =>
        if r_42 = 0 then
          j53 0
        else
          j53 1))) (fun j38 =>
    if r_27 = 0 then
      j38 0
    else
      j38 1))
/-- SpurlineModel.findsLines(I)V -/
def f_X10_findsLines (N : Nat) (σ : gSt) (x1 : Int32) : Option gSt :=
  gLoop2 (fun self2 (v2_2 : Int32) (s_2 : gSt) =>
    if 288 ≤ v2_2 then
      gLoop2 (fun self44 (v2_44 : Int32) (s_44 : gSt) =>
        if 144 ≤ v2_44 then
          gLoop2 (fun self91 (v2_91 : Int32) (s_91 : gSt) =>
            if 288 ≤ v2_91 then
              some s_91
            else
              if v2_91 < 0 ∨ 288 ≤ v2_91.toNatClampNeg then none else
              gJoin1 (fun (s_123 : gSt) =>
                  self91 (v2_91 + 1) s_123) (fun j123 =>
                if g_ga s_91 12 v2_91 = (-1) then
                  j123 s_91
                else
                  if v2_91 < 0 ∨ 288 ≤ v2_91.toNatClampNeg then none else
                  if g_ga s_91 12 v2_91 < 0 ∨ 288 ≤ (g_ga s_91 12 v2_91).toNatClampNeg then none else
                  if g_ga s_91 12 v2_91 < 0 ∨ 288 ≤ (g_ga s_91 12 v2_91).toNatClampNeg then none else
                  j123 (g_pa s_91 13 (g_ga s_91 12 v2_91) ((g_ga s_91 13 (g_ga s_91 12 v2_91)) + 1)))) N 0 s_44
        else
          gJoin1 (fun (s_83 : gSt) =>
              self44 (v2_44 + 1) s_83) (fun j83 =>
            if s_44.2 0 ≤ (v2_44 - v2_44 / 12 * 12) + 1 then
              j83 s_44
            else
              if s_44.2 1 ≤ (v2_44 / 12) + 1 then
                j83 s_44
              else
                (f_X10_joinsSquare N s_44 v2_44 x1).bind (fun (s_80 : gSt) =>
                j83 s_80))) N 0 s_2
    else
      (f_X10_isGap N s_2 v2_2 x1).bind (fun (r_17 : Int32) =>
      gJoin1 (fun (w0_28 : Int32) =>
          if v2_2 < 0 ∨ 288 ≤ v2_2.toNatClampNeg then none else
          if v2_2 < 0 ∨ 288 ≤ v2_2.toNatClampNeg then none else
          self2 (v2_2 + 1) (g_pa (g_pa s_2 12 v2_2 w0_28) 13 v2_2 0)) (fun j28 =>
        if r_17 = 0 then
          j28 (-1)
        else
          j28 v2_2))) N 0 σ
/-- SpurlineModel.isInside(I)Z -/
def f_X10_isInside (σ : gSt) (x1 : Int32) : Int32 :=
  if 144 ≤ x1 then
    (f_X10_in ((x1 - x1 / 144 * 144) - (x1 - x1 / 144 * 144) / 12 * 12) 1 ((σ.2 0) - 2)) &&& 1
  else
    (f_X10_in ((x1 - x1 / 144 * 144) / 12) 1 ((σ.2 1) - 2)) &&& 1
/-- SpurlineModel.isLevel(I)Z -/
def f_X10_isLevel (x0 : Int32) : Int32 :=
  (f_X10_in x0 1 255) &&& 1
/-- SpurlineModel.lines(I)I -/
def f_X10_lines (N : Nat) (σ : gSt) (x1 : Int32) : Option (Int32 × gSt) :=
  if (f_X10_asked σ (f_X10_isLevel x1)).1 = 0 then
    some (0, (f_X10_asked σ (f_X10_isLevel x1)).2)
  else
    (f_X10_findsLines N ((f_X10_asked σ (f_X10_isLevel x1)).2) x1).bind (fun (s_15 : gSt) =>
    gLoop2 (fun self20 (v2_20 : Int32) (v3_20 : Int32) =>
      if 288 ≤ v3_20 then
        some (v2_20, s_15)
      else
        if v3_20 < 0 ∨ 288 ≤ v3_20.toNatClampNeg then none else
        gJoin1 (fun (w0_42 : Int32) =>
            self20 (v2_20 + w0_42) (v3_20 + 1)) (fun j42 =>
          if g_ga s_15 13 v3_20 ≤ 0 then
            j42 0
          else
            j42 1)) N 0 0)
/-- SpurlineModel.rings(I)I -/
def f_X10_rings (N : Nat) (σ : gSt) (x1 : Int32) : Option (Int32 × gSt) :=
  if (f_X10_asked σ (f_X10_isLevel x1)).1 = 0 then
    some (0, (f_X10_asked σ (f_X10_isLevel x1)).2)
  else
    (f_X10_findsLines N ((f_X10_asked σ (f_X10_isLevel x1)).2) x1).bind (fun (s_15 : gSt) =>
    gLoop2 (fun self20 (v2_20 : Int32) (v3_20 : Int32) =>
      if 288 ≤ v3_20 then
        some (v2_20, s_15)
      else
        if v3_20 < 0 ∨ 288 ≤ v3_20.toNatClampNeg then none else
        gJoin1 (fun (w0_41 : Int32) =>
            gLoop2 (fun self46 (v4_46 : Int32) (v5_46 : Int32) =>
              if 288 ≤ v5_46 then
                gJoin1 (fun (w0_103 : Int32) =>
                    self20 (v2_20 + w0_103) (v3_20 + 1)) (fun j103 =>
                  if v4_46 = 0 then
                    j103 0
                  else
                    j103 1)
              else
                gJoin1 (fun (w0_84 : Int32) =>
                    self46 w0_84 (v5_46 + 1)) (fun j84 =>
                gJoin0 (
                    j84 0) (fun j83 =>
                  if v4_46 = 0 then
                    j83
                  else
                    if v5_46 < 0 ∨ 288 ≤ v5_46.toNatClampNeg then none else
                    gJoin0 (
                        j84 1) (fun j79 =>
                      if g_ga s_15 12 v5_46 = v3_20 then
                        if f_X10_isInside s_15 v5_46 = 0 then
                          j83
                        else
                          j79
                      else
                        j79)))) N w0_41 0) (fun j41 =>
          if g_ga s_15 13 v3_20 ≤ 0 then
            j41 0
          else
            j41 1)) N 0 0)
/-- SpurlineModel.longest(I)I -/
def f_X10_longest (N : Nat) (σ : gSt) (x1 : Int32) : Option (Int32 × gSt) :=
  if (f_X10_asked σ (f_X10_isLevel x1)).1 = 0 then
    some (0, (f_X10_asked σ (f_X10_isLevel x1)).2)
  else
    (f_X10_findsLines N ((f_X10_asked σ (f_X10_isLevel x1)).2) x1).bind (fun (s_15 : gSt) =>
    gLoop2 (fun self20 (v2_20 : Int32) (v3_20 : Int32) =>
      if 288 ≤ v3_20 then
        some (v2_20, s_15)
      else
        if v3_20 < 0 ∨ 288 ≤ v3_20.toNatClampNeg then none else
        gJoin1 (fun (w0_47 : Int32) =>
            self20 w0_47 (v3_20 + 1)) (fun j47 =>
          if g_ga s_15 13 v3_20 ≤ v2_20 then
            j47 v2_20
          else
            if v3_20 < 0 ∨ 288 ≤ v3_20.toNatClampNeg then none else
            j47 (g_ga s_15 13 v3_20))) N 0 0)
/-- SpurlineModel.price(I)I -/
def f_X10_price (x0 : Int32) : Int32 :=
  if x0 = 1 then
    12
  else
    if x0 = 2 then
      20
    else
      if x0 = 3 then
        40
      else
        10
/-- SpurlineModel.falls(IIZ)Z -/
def f_X10_falls (N : Nat) (σ : gSt) (x1 x2 x3 : Int32) : Option (Int32 × gSt) :=
  if x1 < 0 ∨ 144 ≤ x1.toNatClampNeg then none else
  if g_ga σ 14 x1 = 1000000000 then
    some (0, σ)
  else
    gJoin0 (
        if x2 < 0 ∨ 144 ≤ x2.toNatClampNeg then none else
        if x1 < 0 ∨ 144 ≤ x1.toNatClampNeg then none else
        gJoin1 (fun (w0_59 : Int32) =>
            if x1 < 0 ∨ 144 ≤ x1.toNatClampNeg then none else
            if x2 < 0 ∨ 144 ≤ x2.toNatClampNeg then none else
            if x2 < 0 ∨ 144 ≤ x2.toNatClampNeg then none else
            gJoin1 (fun (w0_129 : Int32) =>
                if w0_129 = 0 then
                  some (w0_129 &&& 1, σ)
                else
                  if x2 < 0 ∨ 144 ≤ x2.toNatClampNeg then none else
                  if x1 < 0 ∨ 144 ≤ x1.toNatClampNeg then none else
                  if x2 < 0 ∨ 144 ≤ x2.toNatClampNeg then none else
                  some (w0_129 &&& 1, g_pa (g_pa σ 14 x2 (((g_ga σ 14 x1) + (f_X10_price (g_ga σ 1 x2))) + (4 * w0_59))) 15 x2 ((g_ga (g_pa σ 14 x2 (((g_ga σ 14 x1) + (f_X10_price (g_ga σ 1 x2))) + (4 * w0_59))) 15 x1) + w0_59))) (fun j129 =>
            gJoin0 (
                j129 1) (fun j124 =>
              if ((g_ga σ 14 x1) + (f_X10_price (g_ga σ 1 x2))) + (4 * w0_59) < g_ga σ 14 x2 then
                j124
              else
                if x2 < 0 ∨ 144 ≤ x2.toNatClampNeg then none else
                gJoin0 (
                    j129 0) (fun j128 =>
                  if ((g_ga σ 14 x1) + (f_X10_price (g_ga σ 1 x2))) + (4 * w0_59) = g_ga σ 14 x2 then
                    if x1 < 0 ∨ 144 ≤ x1.toNatClampNeg then none else
                    if x2 < 0 ∨ 144 ≤ x2.toNatClampNeg then none else
                    if g_ga σ 15 x2 ≤ (g_ga σ 15 x1) + w0_59 then
                      j128
                    else
                      j124
                  else
                    j128)))) (fun j59 =>
          if g_ga σ 0 x2 ≤ g_ga σ 0 x1 then
            j59 0
          else
            if x2 < 0 ∨ 144 ≤ x2.toNatClampNeg then none else
            if x1 < 0 ∨ 144 ≤ x1.toNatClampNeg then none else
            j59 ((g_ga σ 0 x2) - (g_ga σ 0 x1)))) (fun j27 =>
      if x3 = 0 then
        if x2 < 0 ∨ 144 ≤ x2.toNatClampNeg then none else
        if g_ga σ 1 x2 = 4 then
          some (0, σ)
        else
          j27
      else
        j27)
/-- SpurlineModel.finds(IZ)V -/
def f_X10_finds (N : Nat) (σ : gSt) (x1 x2 : Int32) : Option gSt :=
  gLoop2 (fun self2 (v3_2 : Int32) (s_2 : gSt) =>
    if 144 ≤ v3_2 then
      if x1 < 0 ∨ 144 ≤ x1.toNatClampNeg then none else
      if x1 < 0 ∨ 144 ≤ x1.toNatClampNeg then none else
      gLoop2 (fun self47 (v3_47 : Int32) (s_47 : gSt) =>
        if v3_47 = 0 then
          some s_47
        else
          gLoop3 (fun self56 (v3_56 : Int32) (v4_56 : Int32) (s_56 : gSt) =>
            if 144 ≤ v4_56 then
              self47 v3_56 s_56
            else
              gJoin2 (fun (v3_147 : Int32) (s_147 : gSt) =>
                  gJoin2 (fun (v3_216 : Int32) (s_216 : gSt) =>
                      self56 v3_216 (v4_56 + 1) s_216) (fun j216 =>
                    if f_X10_isCell s_56 (v4_56 - v4_56 / 12 * 12) (v4_56 / 12) = 0 then
                      j216 v3_147 s_147
                    else
                      if s_147.2 1 ≤ (v4_56 / 12) + 1 then
                        j216 v3_147 s_147
                      else
                        (f_X10_falls N s_147 v4_56 (v4_56 + 12) x2).bind (fun (q_175 : Int32 × gSt) =>
                        gJoin1 (fun (w0_190 : Int32) =>
                            (f_X10_falls N q_175.2 (v4_56 + 12) v4_56 x2).bind (fun (q_200 : Int32 × gSt) =>
                            gJoin1 (fun (w0_215 : Int32) =>
                                j216 w0_215 q_200.2) (fun j215 =>
                            gJoin0 (
                                j215 1) (fun j210 =>
                              if q_200.1 = 0 then
                                if w0_190 = 0 then
                                  j215 0
                                else
                                  j210
                              else
                                j210)))) (fun j190 =>
                        gJoin0 (
                            j190 1) (fun j185 =>
                          if q_175.1 = 0 then
                            if v3_147 = 0 then
                              j190 0
                            else
                              j185
                          else
                            j185))))) (fun j147 =>
                if f_X10_isCell s_56 (v4_56 - v4_56 / 12 * 12) (v4_56 / 12) = 0 then
                  j147 v3_56 s_56
                else
                  if s_56.2 0 ≤ (v4_56 - v4_56 / 12 * 12) + 1 then
                    j147 v3_56 s_56
                  else
                    (f_X10_falls N s_56 v4_56 (v4_56 + 1) x2).bind (fun (q_107 : Int32 × gSt) =>
                    gJoin1 (fun (w0_122 : Int32) =>
                        (f_X10_falls N q_107.2 (v4_56 + 1) v4_56 x2).bind (fun (q_131 : Int32 × gSt) =>
                        gJoin1 (fun (w0_146 : Int32) =>
                            j147 w0_146 q_131.2) (fun j146 =>
                        gJoin0 (
                            j146 1) (fun j141 =>
                          if q_131.1 = 0 then
                            if w0_122 = 0 then
                              j146 0
                            else
                              j141
                          else
                            j141)))) (fun j122 =>
                    gJoin0 (
                        j122 1) (fun j117 =>
                      if q_107.1 = 0 then
                        if v3_56 = 0 then
                          j122 0
                        else
                          j117
                      else
                        j117))))) N 0 0 s_47) N 1 (g_pa (g_pa s_2 14 x1 0) 15 x1 0)
    else
      if v3_2 < 0 ∨ 144 ≤ v3_2.toNatClampNeg then none else
      if v3_2 < 0 ∨ 144 ≤ v3_2.toNatClampNeg then none else
      self2 (v3_2 + 1) (g_pa (g_pa s_2 14 v3_2 1000000000) 15 v3_2 1000000000)) N 0 σ
/-- SpurlineModel.control(II)I -/
def f_X10_control (N : Nat) (σ : gSt) (x1 x2 : Int32) : Option (Int32 × gSt) :=
  gJoin1 (fun (w0_40 : Int32) =>
      gLoop2 (fun self45 (v4_45 : Int32) (v5_45 : Int32) =>
        if σ.2 2 ≤ v5_45 then
          if (f_X10_asked_ σ (f_X10_isCell σ x1 x2) v4_45).1 = 0 then
            some (0, (f_X10_asked_ σ (f_X10_isCell σ x1 x2) v4_45).2)
          else
            if ((f_X10_asked_ σ (f_X10_isCell σ x1 x2) v4_45).2).2 2 < 0 ∨ 12 ≤ (((f_X10_asked_ σ (f_X10_isCell σ x1 x2) v4_45).2).2 2).toNatClampNeg then none else
            some (((g_sf (g_pa ((f_X10_asked_ σ (f_X10_isCell σ x1 x2) v4_45).2) 2 (((f_X10_asked_ σ (f_X10_isCell σ x1 x2) v4_45).2).2 2) ((12 * x2) + x1)) 2 (((g_pa ((f_X10_asked_ σ (f_X10_isCell σ x1 x2) v4_45).2) 2 (((f_X10_asked_ σ (f_X10_isCell σ x1 x2) v4_45).2).2 2) ((12 * x2) + x1)).2 2) + 1)).2 2) - 1, g_sf (g_pa ((f_X10_asked_ σ (f_X10_isCell σ x1 x2) v4_45).2) 2 (((f_X10_asked_ σ (f_X10_isCell σ x1 x2) v4_45).2).2 2) ((12 * x2) + x1)) 2 (((g_pa ((f_X10_asked_ σ (f_X10_isCell σ x1 x2) v4_45).2) 2 (((f_X10_asked_ σ (f_X10_isCell σ x1 x2) v4_45).2).2 2) ((12 * x2) + x1)).2 2) + 1))
        else
          gJoin1 (fun (w0_80 : Int32) =>
              self45 w0_80 (v5_45 + 1)) (fun j80 =>
          gJoin0 (
              j80 0) (fun j79 =>
            if v4_45 = 0 then
              j79
            else
              if v5_45 < 0 ∨ 12 ≤ v5_45.toNatClampNeg then none else
              if g_ga σ 2 v5_45 = (12 * x2) + x1 then
                j79
              else
                j80 1))) N w0_40 0) (fun j40 =>
  gJoin0 (
      j40 0) (fun j39 =>
    if f_X10_isCell σ x1 x2 = 0 then
      j39
    else
      if 12 ≤ σ.2 2 then
        j39
      else
        if (12 * x2) + x1 < 0 ∨ 144 ≤ ((12 * x2) + x1).toNatClampNeg then none else
        if g_ga σ 1 ((12 * x2) + x1) = 4 then
          j39
        else
          j40 1))
/-- SpurlineModel.costOf(II)I -/
def f_X10_costOf (N : Nat) (σ : gSt) (x1 x2 : Int32) : Option (Int32 × gSt) :=
  if x1 < 0 ∨ 12 ≤ x1.toNatClampNeg then none else
  (f_X10_finds N σ (g_ga σ 2 x1) 0).bind (fun (s_8 : gSt) =>
  if x2 < 0 ∨ 12 ≤ x2.toNatClampNeg then none else
  if g_ga s_8 2 x2 < 0 ∨ 144 ≤ (g_ga s_8 2 x2).toNatClampNeg then none else
  if g_ga s_8 14 (g_ga s_8 2 x2) = 1000000000 then
    some ((-1), s_8)
  else
    if x2 < 0 ∨ 12 ≤ x2.toNatClampNeg then none else
    if g_ga s_8 2 x2 < 0 ∨ 144 ≤ (g_ga s_8 2 x2).toNatClampNeg then none else
    some (g_ga s_8 14 (g_ga s_8 2 x2), s_8))
/-- SpurlineModel.cost(II)I -/
def f_X10_cost (N : Nat) (σ : gSt) (x1 x2 : Int32) : Option (Int32 × gSt) :=
  gJoin1 (fun (w0_22 : Int32) =>
      if (f_X10_asked σ w0_22).1 = 0 then
        some (0, (f_X10_asked σ w0_22).2)
      else
        (f_X10_costOf N ((f_X10_asked σ w0_22).2) x1 x2).bind (fun (q_31 : Int32 × gSt) =>
        some (q_31.1, q_31.2))) (fun j22 =>
  gJoin0 (
      j22 0) (fun j21 =>
    if f_X10_isControl σ x1 = 0 then
      j21
    else
      if f_X10_isControl σ x2 = 0 then
        j21
      else
        j22 1))
/-- SpurlineModel.costByCells(II)I -/
def f_X10_costByCells (N : Nat) (σ : gSt) (x1 x2 : Int32) : Option (Int32 × gSt) :=
  (f_X10_cost N σ x1 x2).bind (fun (q_3 : Int32 × gSt) =>
  some (q_3.1, q_3.2))
/-- SpurlineModel.climb(II)I -/
def f_X10_climb (N : Nat) (σ : gSt) (x1 x2 : Int32) : Option (Int32 × gSt) :=
  gJoin1 (fun (w0_22 : Int32) =>
      if (f_X10_asked σ w0_22).1 = 0 then
        some (0, (f_X10_asked σ w0_22).2)
      else
        (f_X10_costOf N ((f_X10_asked σ w0_22).2) x1 x2).bind (fun (q_33 : Int32 × gSt) =>
        if q_33.1 = (-1) then
          some ((-1), q_33.2)
        else
          if x2 < 0 ∨ 12 ≤ x2.toNatClampNeg then none else
          if g_ga q_33.2 2 x2 < 0 ∨ 144 ≤ (g_ga q_33.2 2 x2).toNatClampNeg then none else
          some (g_ga q_33.2 15 (g_ga q_33.2 2 x2), q_33.2))) (fun j22 =>
  gJoin0 (
      j22 0) (fun j21 =>
    if f_X10_isControl σ x1 = 0 then
      j21
    else
      if f_X10_isControl σ x2 = 0 then
        j21
      else
        j22 1))
/-- SpurlineModel.tempts(II)Z -/
def f_X10_tempts (N : Nat) (σ : gSt) (x1 x2 : Int32) : Option (Int32 × gSt) :=
  gJoin1 (fun (w0_22 : Int32) =>
      if (f_X10_asked σ w0_22).1 = 0 then
        some (0, (f_X10_asked σ w0_22).2)
      else
        if x1 = x2 then
          some (0, (f_X10_asked σ w0_22).2)
        else
          (f_X10_costOf N ((f_X10_asked σ w0_22).2) x1 x2).bind (fun (q_38 : Int32 × gSt) =>
          if x1 < 0 ∨ 12 ≤ x1.toNatClampNeg then none else
          (f_X10_finds N q_38.2 (g_ga q_38.2 2 x1) 1).bind (fun (s_50 : gSt) =>
          if q_38.1 = (-1) then
            some (1, s_50)
          else
            if x2 < 0 ∨ 12 ≤ x2.toNatClampNeg then none else
            if g_ga s_50 2 x2 < 0 ∨ 144 ≤ (g_ga s_50 2 x2).toNatClampNeg then none else
            if q_38.1 ≤ g_ga s_50 14 (g_ga s_50 2 x2) then
              some (0, s_50)
            else
              some (1, s_50)))) (fun j22 =>
  gJoin0 (
      j22 0) (fun j21 =>
    if f_X10_isControl σ x1 = 0 then
      j21
    else
      if f_X10_isControl σ x2 = 0 then
        j21
      else
        j22 1))
/-- SpurlineModel.visit(II)I -/
def f_X10_visit (N : Nat) (σ : gSt) (x1 x2 : Int32) : Option (Int32 × gSt) :=
  gJoin1 (fun (w0_20 : Int32) =>
      gJoin1 (fun (w0_48 : Int32) =>
          gLoop2 (fun self53 (v4_53 : Int32) (v5_53 : Int32) =>
            gJoin0 (
                if (f_X10_asked_ σ w0_20 v4_53).1 = 0 then
                  some (0, (f_X10_asked_ σ w0_20 v4_53).2)
                else
                  if x1 < 0 ∨ 5 ≤ x1.toNatClampNeg then none else
                  if (6 * x1) + (g_ga ((f_X10_asked_ σ w0_20 v4_53).2) 5 x1) < 0 ∨ 30 ≤ ((6 * x1) + (g_ga ((f_X10_asked_ σ w0_20 v4_53).2) 5 x1)).toNatClampNeg then none else
                  if x1 < 0 ∨ 5 ≤ x1.toNatClampNeg then none else
                  if x1 < 0 ∨ 5 ≤ x1.toNatClampNeg then none else
                  if x1 < 0 ∨ 5 ≤ x1.toNatClampNeg then none else
                  some (g_ga (g_pa (g_pa ((f_X10_asked_ σ w0_20 v4_53).2) 4 ((6 * x1) + (g_ga ((f_X10_asked_ σ w0_20 v4_53).2) 5 x1)) x2) 5 x1 ((g_ga (g_pa ((f_X10_asked_ σ w0_20 v4_53).2) 4 ((6 * x1) + (g_ga ((f_X10_asked_ σ w0_20 v4_53).2) 5 x1)) x2) 5 x1) + 1)) 5 x1, g_pa (g_pa ((f_X10_asked_ σ w0_20 v4_53).2) 4 ((6 * x1) + (g_ga ((f_X10_asked_ σ w0_20 v4_53).2) 5 x1)) x2) 5 x1 ((g_ga (g_pa ((f_X10_asked_ σ w0_20 v4_53).2) 4 ((6 * x1) + (g_ga ((f_X10_asked_ σ w0_20 v4_53).2) 5 x1)) x2) 5 x1) + 1))) (fun j98 =>
              if v4_53 = 0 then
                j98
              else
                if x1 < 0 ∨ 5 ≤ x1.toNatClampNeg then none else
                if g_ga σ 5 x1 ≤ v5_53 then
                  j98
                else
                  if (6 * x1) + v5_53 < 0 ∨ 30 ≤ ((6 * x1) + v5_53).toNatClampNeg then none else
                  gJoin1 (fun (w0_90 : Int32) =>
                      self53 w0_90 (v5_53 + 1)) (fun j90 =>
                    if g_ga σ 4 ((6 * x1) + v5_53) = x2 then
                      j90 0
                    else
                      j90 1))) N w0_48 0) (fun j48 =>
      gJoin0 (
          j48 0) (fun j47 =>
        if w0_20 = 0 then
          j47
        else
          if x1 < 0 ∨ 5 ≤ x1.toNatClampNeg then none else
          if 6 ≤ g_ga σ 5 x1 then
            j47
          else
            if σ.2 4 = 0 then
              j48 1
            else
              j47))) (fun j20 =>
  gJoin0 (
      j20 0) (fun j19 =>
    if f_X10_isClass x1 = 0 then
      j19
    else
      if f_X10_isControl σ x2 = 0 then
        j19
      else
        j20 1))
/-- SpurlineModel.sumOf(IZ)I -/
def f_X10_sumOf (N : Nat) (σ : gSt) (x1 x2 : Int32) : Option (Int32 × gSt) :=
  gJoin1 (fun (w0_10 : Int32) =>
      gLoop3 (fun self14 (v3_14 : Int32) (v4_14 : Int32) (s_14 : gSt) =>
        if x1 ≤ v4_14 + 1 then
          some (v3_14, s_14)
        else
          if v3_14 = (-1) then
            some (v3_14, s_14)
          else
            if v4_14 < 0 ∨ 6 ≤ v4_14.toNatClampNeg then none else
            if v4_14 + 1 < 0 ∨ 6 ≤ (v4_14 + 1).toNatClampNeg then none else
            (f_X10_costOf N s_14 (g_ga s_14 18 v4_14) (g_ga s_14 18 (v4_14 + 1))).bind (fun (q_44 : Int32 × gSt) =>
            gJoin1 (fun (w0_89 : Int32) =>
                self14 w0_89 (v4_14 + 1) q_44.2) (fun j89 =>
              if q_44.1 = (-1) then
                j89 (-1)
              else
                gJoin1 (fun (w0_88 : Int32) =>
                    j89 (v3_14 + w0_88)) (fun j88 =>
                  if x2 = 0 then
                    j88 q_44.1
                  else
                    if v4_14 + 1 < 0 ∨ 6 ≤ (v4_14 + 1).toNatClampNeg then none else
                    if g_ga q_44.2 18 (v4_14 + 1) < 0 ∨ 12 ≤ (g_ga q_44.2 18 (v4_14 + 1)).toNatClampNeg then none else
                    if g_ga q_44.2 2 (g_ga q_44.2 18 (v4_14 + 1)) < 0 ∨ 144 ≤ (g_ga q_44.2 2 (g_ga q_44.2 18 (v4_14 + 1))).toNatClampNeg then none else
                    j88 (g_ga q_44.2 15 (g_ga q_44.2 2 (g_ga q_44.2 18 (v4_14 + 1)))))))) N w0_10 0 σ) (fun j10 =>
    if 2 ≤ x1 then
      j10 0
    else
      j10 (-1))
/-- SpurlineModel.sumOfCourse(IZ)I -/
def f_X10_sumOfCourse (N : Nat) (σ : gSt) (x1 x2 : Int32) : Option (Int32 × gSt) :=
  gLoop2 (fun self2 (v3_2 : Int32) (s_2 : gSt) =>
    if x1 < 0 ∨ 5 ≤ x1.toNatClampNeg then none else
    if g_ga s_2 5 x1 ≤ v3_2 then
      if x1 < 0 ∨ 5 ≤ x1.toNatClampNeg then none else
      (f_X10_sumOf N s_2 (g_ga s_2 5 x1) x2).bind (fun (q_43 : Int32 × gSt) =>
      some (q_43.1, q_43.2))
    else
      if (6 * x1) + v3_2 < 0 ∨ 30 ≤ ((6 * x1) + v3_2).toNatClampNeg then none else
      if v3_2 < 0 ∨ 6 ≤ v3_2.toNatClampNeg then none else
      self2 (v3_2 + 1) (g_pa s_2 18 v3_2 (g_ga s_2 4 ((6 * x1) + v3_2)))) N 0 σ
/-- SpurlineModel.lays(II)Z -/
def f_X10_lays (N : Nat) (σ : gSt) (x1 x2 : Int32) : Option (Int32 × gSt) :=
  if x1 < 0 ∨ 5 ≤ x1.toNatClampNeg then none else
  gLoop4 (fun self18 (v4_18 : Int32) (v5_18 : Int32) (v6_18 : Int32) (s_18 : gSt) =>
    if v6_18 ≤ 0 then
      if 6 * x1 < 0 ∨ 30 ≤ (6 * x1).toNatClampNeg then none else
      if (0 : Int32) < 0 ∨ 6 ≤ (0 : Int32).toNatClampNeg then none else
      if ((6 * x1) + (g_ga σ 5 x1)) - 1 < 0 ∨ 30 ≤ (((6 * x1) + (g_ga σ 5 x1)) - 1).toNatClampNeg then none else
      if (g_ga σ 5 x1) - 1 < 0 ∨ 6 ≤ ((g_ga σ 5 x1) - 1).toNatClampNeg then none else
      if v5_18 = (1 <<< ((g_ga σ 5 x1) - 1 &&& 31)) - 2 then
        some (1, g_pa (g_pa s_18 18 0 (g_ga s_18 4 (6 * x1))) 18 ((g_ga σ 5 x1) - 1) (g_ga (g_pa s_18 18 0 (g_ga s_18 4 (6 * x1))) 4 (((6 * x1) + (g_ga σ 5 x1)) - 1)))
      else
        some (0, g_pa (g_pa s_18 18 0 (g_ga s_18 4 (6 * x1))) 18 ((g_ga σ 5 x1) - 1) (g_ga (g_pa s_18 18 0 (g_ga s_18 4 (6 * x1))) 4 (((6 * x1) + (g_ga σ 5 x1)) - 1)))
    else
      gJoin1 (fun (w0_59 : Int32) =>
          if (6 * x1) + (v4_18 - v4_18 / 6 * 6) < 0 ∨ 30 ≤ ((6 * x1) + (v4_18 - v4_18 / 6 * 6)).toNatClampNeg then none else
          if v6_18 < 0 ∨ 6 ≤ v6_18.toNatClampNeg then none else
          self18 (v4_18 / 6) (v5_18 ||| w0_59) (v6_18 + (-1)) (g_pa s_18 18 v6_18 (g_ga s_18 4 ((6 * x1) + (v4_18 - v4_18 / 6 * 6))))) (fun j59 =>
        if f_X10_in (v4_18 - v4_18 / 6 * 6) 1 ((g_ga σ 5 x1) - 2) = 0 then
          j59 0
        else
          j59 (1 <<< (v4_18 - v4_18 / 6 * 6 &&& 31)))) N x2 0 ((g_ga σ 5 x1) - 2) σ
/-- SpurlineModel.isLess(I)Z -/
def f_X10_isLess (N : Nat) (σ : gSt) (x1 : Int32) : Option Int32 :=
  gLoop1 (fun self2 (v2_2 : Int32) =>
    gJoin0 (
        if v2_2 < 0 ∨ 6 ≤ v2_2.toNatClampNeg then none else
        if v2_2 < 0 ∨ 6 ≤ v2_2.toNatClampNeg then none else
        if g_ga σ 19 v2_2 ≤ g_ga σ 18 v2_2 then
          some 0
        else
          some 1) (fun j30 =>
      if x1 - 1 ≤ v2_2 then
        j30
      else
        if v2_2 < 0 ∨ 6 ≤ v2_2.toNatClampNeg then none else
        if v2_2 < 0 ∨ 6 ≤ v2_2.toNatClampNeg then none else
        if g_ga σ 18 v2_2 = g_ga σ 19 v2_2 then
          self2 (v2_2 + 1)
        else
          j30)) N 0
/-- SpurlineModel.arrange(II)I -/
def f_X10_arrange (N : Nat) (σ : gSt) (x1 x2 : Int32) : Option (Int32 × gSt) :=
  gJoin1 (fun (w0_25 : Int32) =>
      if (f_X10_asked__ σ (f_X10_isClass x1) (f_X10_in x2 0 9999) w0_25).1 = 0 then
        some (0, (f_X10_asked__ σ (f_X10_isClass x1) (f_X10_in x2 0 9999) w0_25).2)
      else
        if x1 < 0 ∨ 5 ≤ x1.toNatClampNeg then none else
        gJoin1 (fun (w0_74 : Int32) =>
            gLoop4 (fun self87 (v5_87 : Int32) (v6_87 : Int32) (v7_87 : Int32) (s_87 : gSt) =>
              if w0_74 ≤ v7_87 then
                gLoop2 (fun self274 (v7_274 : Int32) (s_274 : gSt) =>
                  gJoin0 (
                      (f_X10_sumOfCourse N s_274 x1 1).bind (fun (q_315 : Int32 × gSt) =>
                      some (q_315.1, q_315.2))) (fun j312 =>
                    if g_ga ((f_X10_asked__ σ (f_X10_isClass x1) (f_X10_in x2 0 9999) w0_25).2) 5 x1 ≤ v7_274 then
                      j312
                    else
                      if 1000000000 ≤ v5_87 then
                        j312
                      else
                        if v7_274 < 0 ∨ 6 ≤ v7_274.toNatClampNeg then none else
                        if (6 * x1) + v7_274 < 0 ∨ 30 ≤ ((6 * x1) + v7_274).toNatClampNeg then none else
                        self274 (v7_274 + 1) (g_pa s_274 4 ((6 * x1) + v7_274) (g_ga s_274 19 v7_274)))) N 0 s_87
              else
                (f_X10_lays N s_87 x1 v7_87).bind (fun (q_98 : Int32 × gSt) =>
                gJoin2 (fun (w0_114 : Int32) (s_114 : gSt) =>
                    gJoin2 (fun (w0_133 : Int32) (s_133 : gSt) =>
                        gJoin1 (fun (w0_152 : Int32) =>
                            gJoin1 (fun (w0_201 : Int32) =>
                                gLoop2 (fun self206 (v12_206 : Int32) (s_206 : gSt) =>
                                  gJoin0 (
                                      gJoin1 (fun (w0_249 : Int32) =>
                                          gJoin1 (fun (w0_263 : Int32) =>
                                              self87 w0_249 w0_263 (v7_87 + 1) s_206) (fun j263 =>
                                            if w0_201 = 0 then
                                              j263 v6_87
                                            else
                                              j263 w0_133)) (fun j249 =>
                                        if w0_201 = 0 then
                                          j249 v5_87
                                        else
                                          j249 w0_152)) (fun j237 =>
                                    if g_ga ((f_X10_asked__ σ (f_X10_isClass x1) (f_X10_in x2 0 9999) w0_25).2) 5 x1 ≤ v12_206 then
                                      j237
                                    else
                                      if w0_201 = 0 then
                                        j237
                                      else
                                        if v12_206 < 0 ∨ 6 ≤ v12_206.toNatClampNeg then none else
                                        if v12_206 < 0 ∨ 6 ≤ v12_206.toNatClampNeg then none else
                                        self206 (v12_206 + 1) (g_pa s_206 19 v12_206 (g_ga s_206 18 v12_206)))) N 0 s_133) (fun j201 =>
                            gJoin0 (
                                j201 0) (fun j200 =>
                              if w0_114 = (-1) then
                                j200
                              else
                                gJoin0 (
                                    j201 1) (fun j196 =>
                                  if w0_152 < v5_87 then
                                    j196
                                  else
                                    if w0_152 = v5_87 then
                                      if w0_133 < v6_87 then
                                        j196
                                      else
                                        if w0_133 = v6_87 then
                                          (f_X10_isLess N s_133 (g_ga ((f_X10_asked__ σ (f_X10_isClass x1) (f_X10_in x2 0 9999) w0_25).2) 5 x1)).bind (fun (r_190 : Int32) =>
                                          if r_190 = 0 then
                                            j200
                                          else
                                            j196)
                                        else
                                          j200
                                    else
                                      j200)))) (fun j152 =>
                          if w0_114 = (-1) then
                            j152 1000000000
                          else
                            j152 (f_X10_apart w0_114 x2))) (fun j133 =>
                      if w0_114 = (-1) then
                        j133 1000000000 s_114
                      else
                        (f_X10_sumOf N s_114 (g_ga ((f_X10_asked__ σ (f_X10_isClass x1) (f_X10_in x2 0 9999) w0_25).2) 5 x1) 0).bind (fun (q_130 : Int32 × gSt) =>
                        j133 q_130.1 q_130.2))) (fun j114 =>
                  if q_98.1 = 0 then
                    j114 (-1) q_98.2
                  else
                    (f_X10_sumOf N q_98.2 (g_ga ((f_X10_asked__ σ (f_X10_isClass x1) (f_X10_in x2 0 9999) w0_25).2) 5 x1) 1).bind (fun (q_107 : Int32 × gSt) =>
                    j114 q_107.1 q_107.2)))) N 1000000000 1000000000 0 ((f_X10_asked__ σ (f_X10_isClass x1) (f_X10_in x2 0 9999) w0_25).2)) (fun j74 =>
          if g_ga ((f_X10_asked__ σ (f_X10_isClass x1) (f_X10_in x2 0 9999) w0_25).2) 5 x1 = 4 then
            j74 36
          else
            if g_ga ((f_X10_asked__ σ (f_X10_isClass x1) (f_X10_in x2 0 9999) w0_25).2) 5 x1 = 5 then
              j74 216
            else
              if g_ga ((f_X10_asked__ σ (f_X10_isClass x1) (f_X10_in x2 0 9999) w0_25).2) 5 x1 = 6 then
                j74 1296
              else
                j74 0)) (fun j25 =>
    if σ.2 4 = 0 then
      j25 1
    else
      j25 0)
/-- SpurlineModel.courseAt(II)I -/
def f_X10_courseAt (N : Nat) (σ : gSt) (x1 x2 : Int32) : Option (Int32 × gSt) :=
  gJoin1 (fun (w0_31 : Int32) =>
      if (f_X10_asked σ w0_31).1 = 0 then
        some (0, (f_X10_asked σ w0_31).2)
      else
        if (6 * x1) + x2 < 0 ∨ 30 ≤ ((6 * x1) + x2).toNatClampNeg then none else
        some (g_ga ((f_X10_asked σ w0_31).2) 4 ((6 * x1) + x2), (f_X10_asked σ w0_31).2)) (fun j31 =>
  gJoin0 (
      j31 0) (fun j30 =>
    if f_X10_isClass x1 = 0 then
      j30
    else
      if x1 < 0 ∨ 5 ≤ x1.toNatClampNeg then none else
      if f_X10_in x2 0 ((g_ga σ 5 x1) - 1) = 0 then
        j30
      else
        j31 1))
/-- SpurlineModel.courseClimb(I)I -/
def f_X10_courseClimb (N : Nat) (σ : gSt) (x1 : Int32) : Option (Int32 × gSt) :=
  if (f_X10_asked σ (f_X10_isClass x1)).1 = 0 then
    some (0, (f_X10_asked σ (f_X10_isClass x1)).2)
  else
    (f_X10_sumOfCourse N ((f_X10_asked σ (f_X10_isClass x1)).2) x1 1).bind (fun (q_14 : Int32 × gSt) =>
    some (q_14.1, q_14.2))
/-- SpurlineModel.courseCost(I)I -/
def f_X10_courseCost (N : Nat) (σ : gSt) (x1 : Int32) : Option (Int32 × gSt) :=
  if (f_X10_asked σ (f_X10_isClass x1)).1 = 0 then
    some (0, (f_X10_asked σ (f_X10_isClass x1)).2)
  else
    (f_X10_sumOfCourse N ((f_X10_asked σ (f_X10_isClass x1)).2) x1 0).bind (fun (q_14 : Int32 × gSt) =>
    some (q_14.1, q_14.2))
/-- SpurlineModel.spread()I -/
def f_X10_spread (N : Nat) (σ : gSt) : Option (Int32 × gSt) :=
  gLoop4 (fun self11 (v1_11 : Int32) (v2_11 : Int32) (v3_11 : Int32) (s_11 : gSt) =>
    if 5 ≤ v3_11 then
      some (v2_11 - v1_11, s_11)
    else
      (f_X10_sumOfCourse N s_11 v3_11 1).bind (fun (q_19 : Int32 × gSt) =>
      gJoin1 (fun (w0_47 : Int32) =>
          gJoin1 (fun (w0_60 : Int32) =>
              self11 w0_47 w0_60 (v3_11 + 1) q_19.2) (fun j60 =>
            if q_19.1 ≤ v2_11 then
              j60 v2_11
            else
              j60 q_19.1)) (fun j47 =>
      gJoin0 (
          j47 v1_11) (fun j46 =>
        if q_19.1 = (-1) then
          j46
        else
          gJoin0 (
              j47 q_19.1) (fun j41 =>
            if v1_11 = (-1) then
              j41
            else
              if v1_11 ≤ q_19.1 then
                j46
              else
                j41))))) N (-1) (-1) 0 (g_sf σ 6 0)
/-- SpurlineModel.enter(II)I -/
def f_X10_enter (N : Nat) (σ : gSt) (x1 x2 : Int32) : Option (Int32 × gSt) :=
  gJoin1 (fun (w0_49 : Int32) =>
      if (f_X10_asked__ σ (f_X10_isClass x1) (f_X10_in x2 0 7) w0_49).1 = 0 then
        some (0, (f_X10_asked__ σ (f_X10_isClass x1) (f_X10_in x2 0 7) w0_49).2)
      else
        if ((f_X10_asked__ σ (f_X10_isClass x1) (f_X10_in x2 0 7) w0_49).2).2 3 < 0 ∨ 24 ≤ (((f_X10_asked__ σ (f_X10_isClass x1) (f_X10_in x2 0 7) w0_49).2).2 3).toNatClampNeg then none else
        if (g_pa ((f_X10_asked__ σ (f_X10_isClass x1) (f_X10_in x2 0 7) w0_49).2) 6 (((f_X10_asked__ σ (f_X10_isClass x1) (f_X10_in x2 0 7) w0_49).2).2 3) x1).2 3 < 0 ∨ 24 ≤ ((g_pa ((f_X10_asked__ σ (f_X10_isClass x1) (f_X10_in x2 0 7) w0_49).2) 6 (((f_X10_asked__ σ (f_X10_isClass x1) (f_X10_in x2 0 7) w0_49).2).2 3) x1).2 3).toNatClampNeg then none else
        some (((g_sf (g_pa (g_pa ((f_X10_asked__ σ (f_X10_isClass x1) (f_X10_in x2 0 7) w0_49).2) 6 (((f_X10_asked__ σ (f_X10_isClass x1) (f_X10_in x2 0 7) w0_49).2).2 3) x1) 7 ((g_pa ((f_X10_asked__ σ (f_X10_isClass x1) (f_X10_in x2 0 7) w0_49).2) 6 (((f_X10_asked__ σ (f_X10_isClass x1) (f_X10_in x2 0 7) w0_49).2).2 3) x1).2 3) x2) 3 (((g_pa (g_pa ((f_X10_asked__ σ (f_X10_isClass x1) (f_X10_in x2 0 7) w0_49).2) 6 (((f_X10_asked__ σ (f_X10_isClass x1) (f_X10_in x2 0 7) w0_49).2).2 3) x1) 7 ((g_pa ((f_X10_asked__ σ (f_X10_isClass x1) (f_X10_in x2 0 7) w0_49).2) 6 (((f_X10_asked__ σ (f_X10_isClass x1) (f_X10_in x2 0 7) w0_49).2).2 3) x1).2 3) x2).2 3) + 1)).2 3) - 1, g_sf (g_pa (g_pa ((f_X10_asked__ σ (f_X10_isClass x1) (f_X10_in x2 0 7) w0_49).2) 6 (((f_X10_asked__ σ (f_X10_isClass x1) (f_X10_in x2 0 7) w0_49).2).2 3) x1) 7 ((g_pa ((f_X10_asked__ σ (f_X10_isClass x1) (f_X10_in x2 0 7) w0_49).2) 6 (((f_X10_asked__ σ (f_X10_isClass x1) (f_X10_in x2 0 7) w0_49).2).2 3) x1).2 3) x2) 3 (((g_pa (g_pa ((f_X10_asked__ σ (f_X10_isClass x1) (f_X10_in x2 0 7) w0_49).2) 6 (((f_X10_asked__ σ (f_X10_isClass x1) (f_X10_in x2 0 7) w0_49).2).2 3) x1) 7 ((g_pa ((f_X10_asked__ σ (f_X10_isClass x1) (f_X10_in x2 0 7) w0_49).2) 6 (((f_X10_asked__ σ (f_X10_isClass x1) (f_X10_in x2 0 7) w0_49).2).2 3) x1).2 3) x2).2 3) + 1))) (fun j49 =>
  gJoin0 (
      j49 0) (fun j48 =>
    if f_X10_isClass x1 = 0 then
      j48
    else
      if 24 ≤ σ.2 3 then
        j48
      else
        if σ.2 4 = 0 then
          if x1 < 0 ∨ 5 ≤ x1.toNatClampNeg then none else
          if g_ga σ 5 x1 < 2 then
            j48
          else
            j49 1
        else
          j48))
/-- SpurlineModel.next(II)I -/
def f_X10_next (N : Nat) (σ : gSt) (x1 x2 : Int32) : Option Int32 :=
  gLoop3 (fun self8 (v3_8 : Int32) (v4_8 : Int32) (v5_8 : Int32) =>
    if σ.2 3 ≤ v5_8 then
      some v3_8
    else
      if v5_8 < 0 ∨ 24 ≤ v5_8.toNatClampNeg then none else
      gJoin2 (fun (v3_128 : Int32) (v4_128 : Int32) =>
          self8 v3_128 v4_128 (v5_8 + 1)) (fun j128 =>
        if g_ga σ 6 v5_8 = x1 then
          if v5_8 < 0 ∨ 24 ≤ v5_8.toNatClampNeg then none else
          if g_ga σ 8 v5_8 = (-1) then
            if v5_8 < 0 ∨ 24 ≤ v5_8.toNatClampNeg then none else
            gJoin1 (fun (w0_55 : Int32) =>
                gJoin1 (fun (w0_100 : Int32) =>
                    gJoin1 (fun (w0_113 : Int32) =>
                        gJoin1 (fun (w0_126 : Int32) =>
                            j128 w0_113 w0_126) (fun j126 =>
                          if w0_100 = 0 then
                            j126 v4_8
                          else
                            j126 w0_55)) (fun j113 =>
                      if w0_100 = 0 then
                        j113 v3_8
                      else
                        j113 v5_8)) (fun j100 =>
                gJoin0 (
                    j100 1) (fun j95 =>
                  if v3_8 = (-1) then
                    j95
                  else
                    gJoin0 (
                        gJoin0 (
                            j100 0) (fun j99 =>
                          if w0_55 = v4_8 then
                            if v5_8 < 0 ∨ 24 ≤ v5_8.toNatClampNeg then none else
                            if v3_8 < 0 ∨ 24 ≤ v3_8.toNatClampNeg then none else
                            if g_ga σ 17 v3_8 ≤ g_ga σ 17 v5_8 then
                              j99
                            else
                              j95
                          else
                            j99)) (fun j72 =>
                      if w0_55 = 0 then
                        j72
                      else
                        if v4_8 = 0 then
                          j95
                        else
                          j72)))) (fun j55 =>
              if g_ga σ 7 v5_8 = x2 then
                j55 0
              else
                j55 1)
          else
            j128 v3_8 v4_8
        else
          j128 v3_8 v4_8)) N (-1) 0 0
/-- SpurlineModel.draw(II)I -/
def f_X10_draw (N : Nat) (σ : gSt) (x1 x2 : Int32) : Option (Int32 × gSt) :=
  gJoin1 (fun (w0_27 : Int32) =>
      gJoin1 (fun (w0_46 : Int32) =>
          if (f_X10_asked_ σ w0_27 w0_46).1 = 0 then
            some (0, (f_X10_asked_ σ w0_27 w0_46).2)
          else
            gLoop3 (fun self59 (v3_59 : Int32) (v4_59 : Int32) (s_59 : gSt) =>
              if s_59.2 3 ≤ v4_59 then
                gLoop3 (fun self107 (v4_107 : Int32) (v5_107 : Int32) (s_107 : gSt) =>
                  if 5 ≤ v5_107 then
                    some (v4_107, s_107)
                  else
                    (f_X10_next N s_107 v5_107 (-1)).bind (fun (r_120 : Int32) =>
                    gLoop4 (fun self125 (v4_125 : Int32) (v6_125 : Int32) (v7_125 : Int32) (s_125 : gSt) =>
                      if v7_125 = (-1) then
                        self107 v4_125 (v5_107 + 1) s_125
                      else
                        if v7_125 < 0 ∨ 24 ≤ v7_125.toNatClampNeg then none else
                        gJoin1 (fun (w0_154 : Int32) =>
                            if v7_125 < 0 ∨ 24 ≤ v7_125.toNatClampNeg then none else
                            (f_X10_next N (g_pa s_125 8 v7_125 v6_125) v5_107 (g_ga (g_pa s_125 8 v7_125 v6_125) 7 v7_125)).bind (fun (r_172 : Int32) =>
                            self125 w0_154 (v6_125 + x2) r_172 (g_pa s_125 8 v7_125 v6_125))) (fun j154 =>
                          if v6_125 ≤ v4_125 then
                            j154 v4_125
                          else
                            j154 v6_125)) N v4_107 0 r_120 s_107)) N 0 0 (g_sf s_59 4 1)
              else
                if v4_59 < 0 ∨ 24 ≤ v4_59.toNatClampNeg then none else
                self59 (((421 * v3_59) + 1663) - ((421 * v3_59) + 1663) / 7875 * 7875) (v4_59 + 1) (g_pa s_59 17 v4_59 (((421 * v3_59) + 1663) - ((421 * v3_59) + 1663) / 7875 * 7875))) N x1 0 ((f_X10_asked_ σ w0_27 w0_46).2)) (fun j46 =>
      gJoin0 (
          j46 0) (fun j45 =>
        if σ.2 3 ≤ 0 then
          j45
        else
          if σ.2 4 = 0 then
            j46 1
          else
            j45))) (fun j27 =>
  gJoin0 (
      j27 0) (fun j26 =>
    if f_X10_in x1 0 7874 = 0 then
      j26
    else
      if f_X10_in x2 1 10 = 0 then
        j26
      else
        j27 1))
/-- SpurlineModel.goesThrough(I)Z -/
def f_X10_goesThrough (N : Nat) (σ : gSt) (x1 : Int32) : Option (Int32 × gSt) :=
  if x1 < 0 ∨ 24 ≤ x1.toNatClampNeg then none else
  gLoop2 (fun self14 (v3_14 : Int32) (s_14 : gSt) =>
    if 6 ≤ v3_14 then
      if x1 < 0 ∨ 24 ≤ x1.toNatClampNeg then none else
      if (0 : Int32) < 0 ∨ 6 ≤ (0 : Int32).toNatClampNeg then none else
      gLoop4 (fun self56 (v3_56 : Int32) (v4_56 : Int32) (v5_56 : Int32) (s_56 : gSt) =>
        if v5_56 = 0 then
          if g_ga σ 6 x1 < 0 ∨ 5 ≤ (g_ga σ 6 x1).toNatClampNeg then none else
          if v3_56 < g_ga s_56 5 (g_ga σ 6 x1) then
            some (0, s_56)
          else
            some (1, s_56)
        else
          gLoop1 (fun self61 (v3_61 : Int32) =>
            if g_ga σ 6 x1 < 0 ∨ 5 ≤ (g_ga σ 6 x1).toNatClampNeg then none else
            gJoin0 (
                if g_ga σ 6 x1 < 0 ∨ 5 ≤ (g_ga σ 6 x1).toNatClampNeg then none else
                gJoin1 (fun (w0_127 : Int32) =>
                    gJoin2 (fun (v3_181 : Int32) (s_181 : gSt) =>
                        self56 v3_181 (v4_56 + 1) w0_127 s_181) (fun j181 =>
                      if w0_127 = 0 then
                        j181 v3_61 s_56
                      else
                        if v4_56 < 0 ∨ 480 ≤ v4_56.toNatClampNeg then none else
                        if (6 * (g_ga σ 6 x1)) + v3_61 < 0 ∨ 30 ≤ ((6 * (g_ga σ 6 x1)) + v3_61).toNatClampNeg then none else
                        if g_ga s_56 9 v4_56 = g_ga s_56 4 ((6 * (g_ga σ 6 x1)) + v3_61) then
                          if v4_56 < 0 ∨ 480 ≤ v4_56.toNatClampNeg then none else
                          if v3_61 < 0 ∨ 6 ≤ v3_61.toNatClampNeg then none else
                          j181 (v3_61 + 1) (g_sf (g_pa s_56 16 v3_61 (g_ga s_56 10 v4_56)) 5 (((g_pa s_56 16 v3_61 (g_ga s_56 10 v4_56)).2 5) + 1))
                        else
                          j181 v3_61 s_56)) (fun j127 =>
                gJoin0 (
                    j127 0) (fun j126 =>
                  if g_ga s_56 5 (g_ga σ 6 x1) ≤ v3_61 then
                    j126
                  else
                    if x1 < 0 ∨ 24 ≤ x1.toNatClampNeg then none else
                    if (20 * x1) + (g_ga s_56 11 x1) ≤ v4_56 then
                      j126
                    else
                      j127 1))) (fun j96 =>
              if g_ga s_56 5 (g_ga σ 6 x1) ≤ v3_61 then
                j96
              else
                if (6 * (g_ga σ 6 x1)) + v3_61 < 0 ∨ 30 ≤ ((6 * (g_ga σ 6 x1)) + v3_61).toNatClampNeg then none else
                if g_ga s_56 4 ((6 * (g_ga σ 6 x1)) + v3_61) < 0 ∨ 12 ≤ (g_ga s_56 4 ((6 * (g_ga σ 6 x1)) + v3_61)).toNatClampNeg then none else
                if g_ga s_56 3 (g_ga s_56 4 ((6 * (g_ga σ 6 x1)) + v3_61)) = 0 then
                  j96
                else
                  self61 (v3_61 + 1))) N v3_56) N 1 (20 * x1) 1 (g_pa s_14 16 0 (g_ga s_14 8 x1))
    else
      if v3_14 < 0 ∨ 6 ≤ v3_14.toNatClampNeg then none else
      self14 (v3_14 + 1) (g_pa s_14 16 v3_14 (-1))) N 0 (g_sf σ 5 0)
/-- SpurlineModel.punch(III)I -/
def f_X10_punch (N : Nat) (σ : gSt) (x1 x2 x3 : Int32) : Option (Int32 × gSt) :=
  gJoin1 (fun (w0_21 : Int32) =>
      gJoin1 (fun (w0_51 : Int32) =>
          gJoin1 (fun (w0_98 : Int32) =>
              if (f_X10_asked__ σ w0_21 w0_51 (f_X10_in x3 w0_98 9999)).1 = 0 then
                some (0, (f_X10_asked__ σ w0_21 w0_51 (f_X10_in x3 w0_98 9999)).2)
              else
                if x1 < 0 ∨ 24 ≤ x1.toNatClampNeg then none else
                if (20 * x1) + (g_ga ((f_X10_asked__ σ w0_21 w0_51 (f_X10_in x3 w0_98 9999)).2) 11 x1) < 0 ∨ 480 ≤ ((20 * x1) + (g_ga ((f_X10_asked__ σ w0_21 w0_51 (f_X10_in x3 w0_98 9999)).2) 11 x1)).toNatClampNeg then none else
                if x1 < 0 ∨ 24 ≤ x1.toNatClampNeg then none else
                if (20 * x1) + (g_ga (g_pa ((f_X10_asked__ σ w0_21 w0_51 (f_X10_in x3 w0_98 9999)).2) 9 ((20 * x1) + (g_ga ((f_X10_asked__ σ w0_21 w0_51 (f_X10_in x3 w0_98 9999)).2) 11 x1)) x2) 11 x1) < 0 ∨ 480 ≤ ((20 * x1) + (g_ga (g_pa ((f_X10_asked__ σ w0_21 w0_51 (f_X10_in x3 w0_98 9999)).2) 9 ((20 * x1) + (g_ga ((f_X10_asked__ σ w0_21 w0_51 (f_X10_in x3 w0_98 9999)).2) 11 x1)) x2) 11 x1)).toNatClampNeg then none else
                if x1 < 0 ∨ 24 ≤ x1.toNatClampNeg then none else
                if x1 < 0 ∨ 24 ≤ x1.toNatClampNeg then none else
                (f_X10_goesThrough N (g_pa (g_pa (g_pa ((f_X10_asked__ σ w0_21 w0_51 (f_X10_in x3 w0_98 9999)).2) 9 ((20 * x1) + (g_ga ((f_X10_asked__ σ w0_21 w0_51 (f_X10_in x3 w0_98 9999)).2) 11 x1)) x2) 10 ((20 * x1) + (g_ga (g_pa ((f_X10_asked__ σ w0_21 w0_51 (f_X10_in x3 w0_98 9999)).2) 9 ((20 * x1) + (g_ga ((f_X10_asked__ σ w0_21 w0_51 (f_X10_in x3 w0_98 9999)).2) 11 x1)) x2) 11 x1)) x3) 11 x1 ((g_ga (g_pa (g_pa ((f_X10_asked__ σ w0_21 w0_51 (f_X10_in x3 w0_98 9999)).2) 9 ((20 * x1) + (g_ga ((f_X10_asked__ σ w0_21 w0_51 (f_X10_in x3 w0_98 9999)).2) 11 x1)) x2) 10 ((20 * x1) + (g_ga (g_pa ((f_X10_asked__ σ w0_21 w0_51 (f_X10_in x3 w0_98 9999)).2) 9 ((20 * x1) + (g_ga ((f_X10_asked__ σ w0_21 w0_51 (f_X10_in x3 w0_98 9999)).2) 11 x1)) x2) 11 x1)) x3) 11 x1) + 1)) x1).bind (fun (q_168 : Int32 × gSt) =>
                some (q_168.2.2 5, q_168.2))) (fun j98 =>
            if w0_51 = 0 then
              j98 0
            else
              if x1 < 0 ∨ 24 ≤ x1.toNatClampNeg then none else
              if g_ga σ 11 x1 ≤ 0 then
                if x1 < 0 ∨ 24 ≤ x1.toNatClampNeg then none else
                j98 (g_ga σ 8 x1)
              else
                if x1 < 0 ∨ 24 ≤ x1.toNatClampNeg then none else
                if ((20 * x1) + (g_ga σ 11 x1)) - 1 < 0 ∨ 480 ≤ (((20 * x1) + (g_ga σ 11 x1)) - 1).toNatClampNeg then none else
                j98 (g_ga σ 10 (((20 * x1) + (g_ga σ 11 x1)) - 1)))) (fun j51 =>
      gJoin0 (
          j51 0) (fun j50 =>
        if w0_21 = 0 then
          j50
        else
          if σ.2 4 = 0 then
            j50
          else
            if x1 < 0 ∨ 24 ≤ x1.toNatClampNeg then none else
            if 20 ≤ g_ga σ 11 x1 then
              j50
            else
              j51 1))) (fun j21 =>
  gJoin0 (
      j21 0) (fun j20 =>
    if f_X10_isRunner σ x1 = 0 then
      j20
    else
      if f_X10_isControl σ x2 = 0 then
        j20
      else
        j21 1))
/-- SpurlineModel.fail(IZ)Z -/
def f_X10_fail (N : Nat) (σ : gSt) (x1 x2 : Int32) : Option (Int32 × gSt) :=
  gLoop2 (fun self12 (v4_12 : Int32) (v5_12 : Int32) =>
    if 5 ≤ v5_12 then
      if (f_X10_asked_ σ (f_X10_isControl σ x1) v4_12).1 = 0 then
        some (0, (f_X10_asked_ σ (f_X10_isControl σ x1) v4_12).2)
      else
        if x1 < 0 ∨ 12 ≤ x1.toNatClampNeg then none else
        if x1 < 0 ∨ 12 ≤ x1.toNatClampNeg then none else
        some ((g_ga ((f_X10_asked_ σ (f_X10_isControl σ x1) v4_12).2) 3 x1) &&& 1, g_pa ((f_X10_asked_ σ (f_X10_isControl σ x1) v4_12).2) 3 x1 (x2 &&& 1))
    else
      gJoin1 (fun (w0_76 : Int32) =>
          self12 w0_76 (v5_12 + 1)) (fun j76 =>
      gJoin0 (
          j76 0) (fun j75 =>
        if v4_12 = 0 then
          j75
        else
          if v5_12 < 0 ∨ 5 ≤ v5_12.toNatClampNeg then none else
          gJoin0 (
              j76 1) (fun j71 =>
            if g_ga σ 5 v5_12 = 0 then
              j71
            else
              if 6 * v5_12 < 0 ∨ 30 ≤ (6 * v5_12).toNatClampNeg then none else
              if g_ga σ 4 (6 * v5_12) = x1 then
                j75
              else
                if v5_12 < 0 ∨ 5 ≤ v5_12.toNatClampNeg then none else
                if ((6 * v5_12) + (g_ga σ 5 v5_12)) - 1 < 0 ∨ 30 ≤ (((6 * v5_12) + (g_ga σ 5 v5_12)) - 1).toNatClampNeg then none else
                if g_ga σ 4 (((6 * v5_12) + (g_ga σ 5 v5_12)) - 1) = x1 then
                  j75
                else
                  j71)))) N (f_X10_isControl σ x1) 0
/-- SpurlineModel.runners()I -/
def f_X10_runners (σ : gSt) : Int32 × gSt :=
  ((g_sf σ 6 0).2 3, g_sf σ 6 0)
/-- SpurlineModel.startOf(I)I -/
def f_X10_startOf (N : Nat) (σ : gSt) (x1 : Int32) : Option (Int32 × gSt) :=
  if (f_X10_asked σ (f_X10_isRunner σ x1)).1 = 0 then
    some (0, (f_X10_asked σ (f_X10_isRunner σ x1)).2)
  else
    if x1 < 0 ∨ 24 ≤ x1.toNatClampNeg then none else
    some (g_ga ((f_X10_asked σ (f_X10_isRunner σ x1)).2) 8 x1, (f_X10_asked σ (f_X10_isRunner σ x1)).2)
/-- SpurlineModel.state(I)I -/
def f_X10_state (N : Nat) (σ : gSt) (x1 : Int32) : Option (Int32 × gSt) :=
  (f_X10_goesThrough N σ x1).bind (fun (q_2 : Int32 × gSt) =>
  if q_2.1 = 0 then
    if x1 < 0 ∨ 24 ≤ x1.toNatClampNeg then none else
    if x1 < 0 ∨ 24 ≤ x1.toNatClampNeg then none else
    if g_ga q_2.2 6 x1 < 0 ∨ 5 ≤ (g_ga q_2.2 6 x1).toNatClampNeg then none else
    if ((6 * (g_ga q_2.2 6 x1)) + (g_ga q_2.2 5 (g_ga q_2.2 6 x1))) - 1 < 0 ∨ 30 ≤ (((6 * (g_ga q_2.2 6 x1)) + (g_ga q_2.2 5 (g_ga q_2.2 6 x1))) - 1).toNatClampNeg then none else
    gLoop2 (fun self47 (v3_47 : Int32) (v4_47 : Int32) =>
      if x1 < 0 ∨ 24 ≤ x1.toNatClampNeg then none else
      if (20 * x1) + (g_ga q_2.2 11 x1) ≤ v4_47 then
        some (v3_47, q_2.2)
      else
        if v4_47 < 0 ∨ 480 ≤ v4_47.toNatClampNeg then none else
        gJoin1 (fun (w0_79 : Int32) =>
            self47 w0_79 (v4_47 + 1)) (fun j79 =>
          if g_ga q_2.2 9 v4_47 = g_ga q_2.2 4 (((6 * (g_ga q_2.2 6 x1)) + (g_ga q_2.2 5 (g_ga q_2.2 6 x1))) - 1) then
            j79 2
          else
            j79 v3_47)) N 0 (20 * x1)
  else
    some (1, q_2.2))
/-- SpurlineModel.stateOf(I)I -/
def f_X10_stateOf (N : Nat) (σ : gSt) (x1 : Int32) : Option (Int32 × gSt) :=
  if (f_X10_asked σ (f_X10_isRunner σ x1)).1 = 0 then
    some (0, (f_X10_asked σ (f_X10_isRunner σ x1)).2)
  else
    (f_X10_state N ((f_X10_asked σ (f_X10_isRunner σ x1)).2) x1).bind (fun (q_14 : Int32 × gSt) =>
    some (q_14.1, q_14.2))
/-- SpurlineModel.isLeg(II)Z -/
def f_X10_isLeg (N : Nat) (σ : gSt) (x1 x2 : Int32) : Option Int32 :=
  if f_X10_isRunner σ x1 = 0 then
    some 0
  else
    if x1 < 0 ∨ 24 ≤ x1.toNatClampNeg then none else
    if g_ga σ 6 x1 < 0 ∨ 5 ≤ (g_ga σ 6 x1).toNatClampNeg then none else
    if f_X10_in x2 0 ((g_ga σ 5 (g_ga σ 6 x1)) - 2) = 0 then
      some 0
    else
      some 1
/-- SpurlineModel.isVoid(II)Z -/
def f_X10_isVoid (N : Nat) (σ : gSt) (x1 x2 : Int32) : Option Int32 :=
  if x1 < 0 ∨ 24 ≤ x1.toNatClampNeg then none else
  if (6 * (g_ga σ 6 x1)) + x2 < 0 ∨ 30 ≤ ((6 * (g_ga σ 6 x1)) + x2).toNatClampNeg then none else
  if g_ga σ 4 ((6 * (g_ga σ 6 x1)) + x2) < 0 ∨ 12 ≤ (g_ga σ 4 ((6 * (g_ga σ 6 x1)) + x2)).toNatClampNeg then none else
  if g_ga σ 3 (g_ga σ 4 ((6 * (g_ga σ 6 x1)) + x2)) = 0 then
    if ((6 * (g_ga σ 6 x1)) + x2) + 1 < 0 ∨ 30 ≤ (((6 * (g_ga σ 6 x1)) + x2) + 1).toNatClampNeg then none else
    if g_ga σ 4 (((6 * (g_ga σ 6 x1)) + x2) + 1) < 0 ∨ 12 ≤ (g_ga σ 4 (((6 * (g_ga σ 6 x1)) + x2) + 1)).toNatClampNeg then none else
    if g_ga σ 3 (g_ga σ 4 (((6 * (g_ga σ 6 x1)) + x2) + 1)) = 0 then
      some 0
    else
      some 1
  else
    some 1
/-- SpurlineModel.splitOf(II)I -/
def f_X10_splitOf (N : Nat) (σ : gSt) (x1 x2 : Int32) : Option Int32 :=
  (f_X10_isVoid N σ x1 x2).bind (fun (r_3 : Int32) =>
  if r_3 = 0 then
    if x2 < 0 ∨ 6 ≤ x2.toNatClampNeg then none else
    if g_ga σ 16 x2 = (-1) then
      some (-1)
    else
      if x2 + 1 < 0 ∨ 6 ≤ (x2 + 1).toNatClampNeg then none else
      if g_ga σ 16 (x2 + 1) = (-1) then
        some (-1)
      else
        if x2 + 1 < 0 ∨ 6 ≤ (x2 + 1).toNatClampNeg then none else
        if x2 < 0 ∨ 6 ≤ x2.toNatClampNeg then none else
        some ((g_ga σ 16 (x2 + 1)) - (g_ga σ 16 x2))
  else
    some (-1))
/-- SpurlineModel.split(II)I -/
def f_X10_split (N : Nat) (σ : gSt) (x1 x2 : Int32) : Option (Int32 × gSt) :=
  (f_X10_isLeg N σ x1 x2).bind (fun (r_4 : Int32) =>
  if (f_X10_asked σ r_4).1 = 0 then
    some (0, (f_X10_asked σ r_4).2)
  else
    (f_X10_goesThrough N ((f_X10_asked σ r_4).2) x1).bind (fun (q_17 : Int32 × gSt) =>
    (f_X10_splitOf N q_17.2 x1 x2).bind (fun (r_24 : Int32) =>
    some (r_24, q_17.2))))
/-- SpurlineModel.totalOf(I)I -/
def f_X10_totalOf (N : Nat) (σ : gSt) (x1 : Int32) : Option (Int32 × gSt) :=
  (f_X10_state N σ x1).bind (fun (q_2 : Int32 × gSt) =>
  gJoin1 (fun (w0_14 : Int32) =>
      gLoop2 (fun self17 (v2_17 : Int32) (v3_17 : Int32) =>
        if x1 < 0 ∨ 24 ≤ x1.toNatClampNeg then none else
        if g_ga q_2.2 6 x1 < 0 ∨ 5 ≤ (g_ga q_2.2 6 x1).toNatClampNeg then none else
        if (g_ga q_2.2 5 (g_ga q_2.2 6 x1)) - 1 ≤ v3_17 then
          some (v2_17, q_2.2)
        else
          if v2_17 = (-1) then
            some (v2_17, q_2.2)
          else
            (f_X10_isVoid N q_2.2 x1 v3_17).bind (fun (r_43 : Int32) =>
            gJoin1 (fun (w0_59 : Int32) =>
                self17 (v2_17 + w0_59) (v3_17 + 1)) (fun j59 =>
              if r_43 = 0 then
                (f_X10_splitOf N q_2.2 x1 v3_17).bind (fun (r_56 : Int32) =>
                j59 r_56)
              else
                j59 0))) N w0_14 0) (fun j14 =>
    if q_2.1 = 1 then
      j14 0
    else
      j14 (-1)))
/-- SpurlineModel.total(I)I -/
def f_X10_total (N : Nat) (σ : gSt) (x1 : Int32) : Option (Int32 × gSt) :=
  if (f_X10_asked σ (f_X10_isRunner σ x1)).1 = 0 then
    some (0, (f_X10_asked σ (f_X10_isRunner σ x1)).2)
  else
    (f_X10_totalOf N ((f_X10_asked σ (f_X10_isRunner σ x1)).2) x1).bind (fun (q_14 : Int32 × gSt) =>
    some (q_14.1, q_14.2))
/-- SpurlineModel.rank(I)I -/
def f_X10_rank (N : Nat) (σ : gSt) (x1 : Int32) : Option (Int32 × gSt) :=
  if (f_X10_asked σ (f_X10_isRunner σ x1)).1 = 0 then
    some (0, (f_X10_asked σ (f_X10_isRunner σ x1)).2)
  else
    (f_X10_totalOf N ((f_X10_asked σ (f_X10_isRunner σ x1)).2) x1).bind (fun (q_16 : Int32 × gSt) =>
    gJoin1 (fun (w0_30 : Int32) =>
        gLoop3 (fun self34 (v3_34 : Int32) (v4_34 : Int32) (s_34 : gSt) =>
          if s_34.2 3 ≤ v4_34 then
            some (v3_34, s_34)
          else
            if q_16.1 = (-1) then
              some (v3_34, s_34)
            else
              if v4_34 < 0 ∨ 24 ≤ v4_34.toNatClampNeg then none else
              if x1 < 0 ∨ 24 ≤ x1.toNatClampNeg then none else
              gJoin2 (fun (w0_74 : Int32) (s_74 : gSt) =>
                  gJoin1 (fun (w0_94 : Int32) =>
                      self34 (v3_34 + w0_94) (v4_34 + 1) s_74) (fun j94 =>
                  gJoin0 (
                      j94 0) (fun j93 =>
                    if w0_74 = (-1) then
                      j93
                    else
                      if q_16.1 ≤ w0_74 then
                        j93
                      else
                        j94 1))) (fun j74 =>
                if g_ga s_34 6 v4_34 = g_ga s_34 6 x1 then
                  (f_X10_totalOf N s_34 v4_34).bind (fun (q_67 : Int32 × gSt) =>
                  j74 q_67.1 q_67.2)
                else
                  j74 (-1) s_34)) N w0_30 0 q_16.2) (fun j30 =>
      if q_16.1 = (-1) then
        j30 (-1)
      else
        j30 1))
/-- SpurlineModel.bestSplit(II)I -/
def f_X10_bestSplit (N : Nat) (σ : gSt) (x1 x2 : Int32) : Option (Int32 × gSt) :=
  gLoop3 (fun self5 (v3_5 : Int32) (v4_5 : Int32) (s_5 : gSt) =>
    if s_5.2 3 ≤ v4_5 then
      if v3_5 = (-1) then
        some (0, s_5)
      else
        some (v3_5, s_5)
    else
      (f_X10_state N s_5 v4_5).bind (fun (q_17 : Int32 × gSt) =>
      gJoin1 (fun (w0_29 : Int32) =>
          gLoop2 (fun self34 (v3_34 : Int32) (v6_34 : Int32) =>
            if v4_5 < 0 ∨ 24 ≤ v4_5.toNatClampNeg then none else
            if g_ga q_17.2 6 v4_5 < 0 ∨ 5 ≤ (g_ga q_17.2 6 v4_5).toNatClampNeg then none else
            gJoin0 (
                self5 v3_34 (v4_5 + 1) q_17.2) (fun j141 =>
              if (g_ga q_17.2 5 (g_ga q_17.2 6 v4_5)) - 1 ≤ v6_34 then
                j141
              else
                if w0_29 = 0 then
                  j141
                else
                  if v4_5 < 0 ∨ 24 ≤ v4_5.toNatClampNeg then none else
                  if (6 * (g_ga q_17.2 6 v4_5)) + v6_34 < 0 ∨ 30 ≤ ((6 * (g_ga q_17.2 6 v4_5)) + v6_34).toNatClampNeg then none else
                  gJoin1 (fun (w0_109 : Int32) =>
                      gJoin1 (fun (w0_134 : Int32) =>
                          self34 w0_134 (v6_34 + 1)) (fun j134 =>
                      gJoin0 (
                          j134 v3_34) (fun j133 =>
                        if w0_109 = (-1) then
                          j133
                        else
                          gJoin0 (
                              j134 w0_109) (fun j128 =>
                            if v3_34 = (-1) then
                              j128
                            else
                              if v3_34 ≤ w0_109 then
                                j133
                              else
                                j128)))) (fun j109 =>
                  gJoin0 (
                      j109 (-1)) (fun j108 =>
                    if g_ga q_17.2 4 ((6 * (g_ga q_17.2 6 v4_5)) + v6_34) = x1 then
                      if ((6 * (g_ga q_17.2 6 v4_5)) + v6_34) + 1 < 0 ∨ 30 ≤ (((6 * (g_ga q_17.2 6 v4_5)) + v6_34) + 1).toNatClampNeg then none else
                      if g_ga q_17.2 4 (((6 * (g_ga q_17.2 6 v4_5)) + v6_34) + 1) = x2 then
                        (f_X10_splitOf N q_17.2 v4_5 v6_34).bind (fun (r_102 : Int32) =>
                        j109 r_102)
                      else
                        j108
                    else
                      j108)))) N v3_5 0) (fun j29 =>
        if q_17.1 = 1 then
          j29 1
        else
          j29 0))) N (-1) 0 σ
/-- SpurlineModel.lost(II)I -/
def f_X10_lost (N : Nat) (σ : gSt) (x1 x2 : Int32) : Option (Int32 × gSt) :=
  (f_X10_isLeg N σ x1 x2).bind (fun (r_4 : Int32) =>
  if (f_X10_asked σ r_4).1 = 0 then
    some (0, (f_X10_asked σ r_4).2)
  else
    (f_X10_totalOf N ((f_X10_asked σ r_4).2) x1).bind (fun (q_17 : Int32 × gSt) =>
    if q_17.1 = (-1) then
      some ((-1), q_17.2)
    else
      (f_X10_isVoid N q_17.2 x1 x2).bind (fun (r_29 : Int32) =>
      if r_29 = 0 then
        if x1 < 0 ∨ 24 ≤ x1.toNatClampNeg then none else
        gLoop4 (fun self57 (v5_57 : Int32) (v6_57 : Int32) (v7_57 : Int32) (s_57 : gSt) =>
          if x1 < 0 ∨ 24 ≤ x1.toNatClampNeg then none else
          if g_ga s_57 6 x1 < 0 ∨ 5 ≤ (g_ga s_57 6 x1).toNatClampNeg then none else
          if (g_ga s_57 5 (g_ga s_57 6 x1)) - 1 ≤ v7_57 then
            gJoin1 (fun (w0_166 : Int64) =>
                (f_X10_goesThrough N s_57 x1).bind (fun (q_170 : Int32 × gSt) =>
                (f_X10_splitOf N q_170.2 x1 x2).bind (fun (r_177 : Int32) =>
                if r_177 - (((v6_57.toInt64 * w0_166) / 1000).toInt32) ≤ 0 then
                  some (0, q_170.2)
                else
                  some (r_177 - (((v6_57.toInt64 * w0_166) / 1000).toInt32), q_170.2)))) (fun j166 =>
              if v5_57 = 0 then
                j166 1000
              else
                if v5_57.toInt64 = 0 then none else
                j166 ((1000 * q_17.1.toInt64) / v5_57.toInt64))
          else
            (f_X10_isVoid N s_57 x1 v7_57).bind (fun (r_79 : Int32) =>
            gJoin2 (fun (w0_115 : Int32) (s_115 : gSt) =>
                gJoin1 (fun (w0_137 : Int32) =>
                    self57 (v5_57 + w0_115) w0_137 (v7_57 + 1) s_115) (fun j137 =>
                  if v7_57 = x2 then
                    j137 w0_115
                  else
                    j137 v6_57)) (fun j115 =>
              if r_79 = 0 then
                if (6 * (g_ga q_17.2 6 x1)) + v7_57 < 0 ∨ 30 ≤ ((6 * (g_ga q_17.2 6 x1)) + v7_57).toNatClampNeg then none else
                if ((6 * (g_ga q_17.2 6 x1)) + v7_57) + 1 < 0 ∨ 30 ≤ (((6 * (g_ga q_17.2 6 x1)) + v7_57) + 1).toNatClampNeg then none else
                (f_X10_bestSplit N s_57 (g_ga s_57 4 ((6 * (g_ga q_17.2 6 x1)) + v7_57)) (g_ga s_57 4 (((6 * (g_ga q_17.2 6 x1)) + v7_57) + 1))).bind (fun (q_112 : Int32 × gSt) =>
                j115 q_112.1 q_112.2)
              else
                j115 0 s_57))) N 0 0 0 q_17.2
      else
        some ((-1), q_17.2))))
def f_L_setHeight (k : Nat) : Int32 := if k = 0 then 0 else if k = 1 then 1 else 2
def f_L_hill (k : Nat) : Int32 := if k = 0 then 0 else if k = 1 then 1 else 2
def f_L_setGround (k : Nat) : Int32 := if k = 0 then 0 else if k = 1 then 1 else 2
def f_L_control (k : Nat) : Int32 := if k = 0 then 0 else if k = 1 then 1 else 2
def f_L_visit (k : Nat) : Int32 := if k = 0 then 0 else if k = 1 then 1 else 2
def f_L_arrange (k : Nat) : Int32 := if k = 0 then 0 else if k = 1 then 1 else if k = 2 then 2 else 3
def f_L_enter (k : Nat) : Int32 := if k = 0 then 0 else if k = 1 then 1 else if k = 2 then 2 else 3
def f_L_draw (k : Nat) : Int32 := if k = 0 then 0 else if k = 2 then 1 else 2
def f_L_punch (k : Nat) : Int32 := if k = 0 then 0 else if k = 1 then 1 else if k = 3 then 2 else 3
def f_L_fail (k : Nat) : Int32 := if k = 0 then 0 else if k = 1 then 1 else 2
def f_L_cell_ (k : Nat) : Int32 := if k = 0 then 0 else 1
def f_L_lines (k : Nat) : Int32 := if k = 0 then 0 else 1
def f_L_rings (k : Nat) : Int32 := if k = 0 then 0 else 1
def f_L_longest (k : Nat) : Int32 := if k = 0 then 0 else 1
def f_L_cost (k : Nat) : Int32 := if k = 0 then 0 else 1
def f_L_costByCells (k : Nat) : Int32 := if k = 0 then 0 else 1
def f_L_climb (k : Nat) : Int32 := if k = 0 then 0 else 1
def f_L_tempts (k : Nat) : Int32 := if k = 0 then 0 else 1
def f_L_courseAt (k : Nat) : Int32 := if k = 0 then 0 else 1
def f_L_courseClimb (k : Nat) : Int32 := if k = 0 then 0 else 1
def f_L_courseCost (k : Nat) : Int32 := if k = 0 then 0 else 1
def f_L_startOf (k : Nat) : Int32 := if k = 0 then 0 else 1
def f_L_stateOf (k : Nat) : Int32 := if k = 0 then 0 else 1
def f_L_split (k : Nat) : Int32 := if k = 0 then 0 else 1
def f_L_total (k : Nat) : Int32 := if k = 0 then 0 else 1
def f_L_rank (k : Nat) : Int32 := if k = 0 then 0 else 1
def f_L_lost (k : Nat) : Int32 := if k = 0 then 0 else 1
def mside (x : Int32) : Int32 := if 2 ≤ x then (if x ≤ 12 then x else 12) else 2
def gneg (i : Nat) : Nat → Int32 := fun j => if j < i then -1 else 0
def S0c (u0 u1 : Int32) : gSt := (fun _ _ => 0, fun k => if k = 0 then f_X9_sideWithinLimits u0 else if k = 1 then f_X9_sideWithinLimits u1 else 0)
def S0m (u0 u1 : Int32) : gSt := (fun r => if r = 8 then gneg 24 else fun _ => 0, fun k => if k = 0 then mside u0 else if k = 1 then mside u1 else 0)
