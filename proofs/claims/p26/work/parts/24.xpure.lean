def f_X0_needlePoints_57 (fd_column : Int) (fd_cornerXs : Int → Int) (fd_cornerYs : Int → Int) (fd_crossings : Int → Int) (fd_cornerCount : Int) (fd_crossingCount : Int) (fd_density : Int) (fd_length : Int) (fd_shift : Int) (fd_pull : Int) (fd_underlay : Int) (fd_drawn : Int) (pt_xs : Int → Int) (pt_ys : Int → Int) (pt_size : Int) : Option ((Int → Int) × Int × Int × (Int → Int) × (Int → Int) × Int) :=
  some (fd_crossings, fd_crossingCount, 1, pt_xs, pt_ys, pt_size)
def f_X0_needlePoints_53 (fd_column : Int) (fd_cornerXs : Int → Int) (fd_cornerYs : Int → Int) (fd_crossings : Int → Int) (fd_cornerCount : Int) (fd_crossingCount : Int) (fd_density : Int) (fd_length : Int) (fd_shift : Int) (fd_pull : Int) (fd_underlay : Int) (fd_drawn : Int) (pt_xs : Int → Int) (pt_ys : Int → Int) (pt_size : Int) : Option ((Int → Int) × Int × Int × (Int → Int) × (Int → Int) × Int) :=
  zb5 (f_X0_drawRows fd_cornerXs fd_cornerYs fd_crossings fd_cornerCount fd_crossingCount fd_density fd_length fd_shift fd_pull pt_xs pt_ys pt_size) fun a2 u3 a4 a5 u6 =>
  f_X0_needlePoints_57 fd_column fd_cornerXs fd_cornerYs a2 fd_cornerCount u3 fd_density fd_length fd_shift fd_pull fd_underlay fd_drawn a4 a5 u6
def f_X0_needlePoints (fd_column : Int) (fd_cornerXs : Int → Int) (fd_cornerYs : Int → Int) (fd_crossings : Int → Int) (fd_cornerCount : Int) (fd_crossingCount : Int) (fd_density : Int) (fd_length : Int) (fd_shift : Int) (fd_pull : Int) (fd_underlay : Int) (fd_drawn : Int) (pt_xs : Int → Int) (pt_ys : Int → Int) (pt_size : Int) : Option ((Int → Int) × Int × Int × (Int → Int) × (Int → Int) × Int) :=
  zck (zR fd_drawn) <|
  if fd_drawn = 0 then
    zck (zR fd_column) <|
    if fd_column = 0 then
      zck (zR fd_cornerCount) <|
      if fd_cornerCount < 3 then
        f_X0_needlePoints_57 fd_column fd_cornerXs fd_cornerYs fd_crossings fd_cornerCount fd_crossingCount fd_density fd_length fd_shift fd_pull fd_underlay fd_drawn pt_xs pt_ys 0
      else
        zck (zR fd_underlay) <|
        if fd_underlay = 0 then
          f_X0_needlePoints_53 fd_column fd_cornerXs fd_cornerYs fd_crossings fd_cornerCount fd_crossingCount fd_density fd_length fd_shift fd_pull fd_underlay fd_drawn pt_xs pt_ys 0
        else
          zb3 (f_X0_drawUnderlay fd_cornerXs fd_cornerYs fd_cornerCount fd_length pt_xs pt_ys 0) fun a18 a19 u20 =>
          f_X0_needlePoints_53 fd_column fd_cornerXs fd_cornerYs fd_crossings fd_cornerCount fd_crossingCount fd_density fd_length fd_shift fd_pull fd_underlay fd_drawn a18 a19 u20
    else
      zb3 (f_X0_drawColumn fd_cornerXs fd_cornerYs fd_cornerCount fd_density pt_xs pt_ys 0) fun a23 a24 u25 =>
      f_X0_needlePoints_57 fd_column fd_cornerXs fd_cornerYs fd_crossings fd_cornerCount fd_crossingCount fd_density fd_length fd_shift fd_pull fd_underlay fd_drawn a23 a24 u25
  else
    some (fd_crossings, fd_crossingCount, fd_drawn, pt_xs, pt_ys, pt_size)
def f_X6_comesAhead_67 (F_fd_colour : Int → Int) (F_fd_layer : Int → Int) (F_pt_xs : Int → Int → Int) (F_pt_ys : Int → Int → Int) (F_pt_size : Int → Int) (pl_needleX : Int) (pl_needleY : Int) (pl_colour : Int) (nF : Int) (x1 : Int) (x2 : Int) (x3 : Int) (s0 : Int) : Option (Int) :=
  zck (zR x3 ∧ zR s0) <|
  if x3 = s0 then
    zck (0 ≤ x1 ∧ x1 < nF) <|
    zck (0 ≤ x1 ∧ x1 < nF) <|
    zb1 (f_X3_squareToFirst (F_pt_xs x1) (F_pt_ys x1) (F_pt_size x1) pl_needleX pl_needleY) fun r5 =>
    zck (0 ≤ x2 ∧ x2 < nF) <|
    zck (0 ≤ x2 ∧ x2 < nF) <|
    zb1 (f_X3_squareToFirst (F_pt_xs x2) (F_pt_ys x2) (F_pt_size x2) pl_needleX pl_needleY) fun r11 =>
    zck (zR r5 ∧ zR r11) <|
    if r11 ≤ r5 then
      some 0
    else
      some 1
  else
    zck (x3 = 0 ∨ x3 = 1) <|
    some x3
def f_X6_comesAhead_47 (F_fd_colour : Int → Int) (F_fd_layer : Int → Int) (F_pt_xs : Int → Int → Int) (F_pt_ys : Int → Int → Int) (F_pt_size : Int → Int) (pl_needleX : Int) (pl_needleY : Int) (pl_colour : Int) (nF : Int) (x1 : Int) (x2 : Int) (s0 : Int) : Option (Int) :=
  zck (0 ≤ x2 ∧ x2 < nF) <|
  zck (zR (F_fd_colour x2) ∧ zR pl_colour) <|
  if (F_fd_colour x2) = pl_colour then
    f_X6_comesAhead_67 F_fd_colour F_fd_layer F_pt_xs F_pt_ys F_pt_size pl_needleX pl_needleY pl_colour nF x1 x2 s0 1
  else
    f_X6_comesAhead_67 F_fd_colour F_fd_layer F_pt_xs F_pt_ys F_pt_size pl_needleX pl_needleY pl_colour nF x1 x2 s0 0
def f_X6_comesAhead (F_fd_colour : Int → Int) (F_fd_layer : Int → Int) (F_pt_xs : Int → Int → Int) (F_pt_ys : Int → Int → Int) (F_pt_size : Int → Int) (pl_needleX : Int) (pl_needleY : Int) (pl_colour : Int) (nF : Int) (p1 : Int) (p2 : Int) : Option (Int) :=
  zck (0 ≤ p1 ∧ p1 < nF) <|
  zck (0 ≤ p2 ∧ p2 < nF) <|
  zck (zR (F_fd_layer p1) ∧ zR (F_fd_layer p2)) <|
  if (F_fd_layer p1) = (F_fd_layer p2) then
    zck (0 ≤ p1 ∧ p1 < nF) <|
    zck (zR (F_fd_colour p1) ∧ zR pl_colour) <|
    if (F_fd_colour p1) = pl_colour then
      f_X6_comesAhead_47 F_fd_colour F_fd_layer F_pt_xs F_pt_ys F_pt_size pl_needleX pl_needleY pl_colour nF p1 p2 1
    else
      f_X6_comesAhead_47 F_fd_colour F_fd_layer F_pt_xs F_pt_ys F_pt_size pl_needleX pl_needleY pl_colour nF p1 p2 0
  else
    zck (0 ≤ p1 ∧ p1 < nF) <|
    zck (0 ≤ p2 ∧ p2 < nF) <|
    zck (zR (F_fd_layer p1) ∧ zR (F_fd_layer p2)) <|
    if (F_fd_layer p2) ≤ (F_fd_layer p1) then
      some 0
    else
      some 1
def f_X6_sewNextField_L6 (sp_waiting : Int → Int) (sp_trimBound : Int) (F_fd_colour : Int → Int) (F_fd_layer : Int → Int) (F_pt_xs : Int → Int → Int) (F_pt_ys : Int → Int → Int) (F_pt_size : Int → Int) (pl_kinds : Int → Int) (pl_differencesX : Int → Int) (pl_differencesY : Int → Int) (pl_owners : Int → Int) (pl_kindCounts : Int → Int) (pl_threads : Int → Int) (pl_size : Int) (pl_seconds : UInt32) (pl_needleX : Int) (pl_needleY : Int) (pl_colour : Int) (nF : Int) (x1 : Int) (x2 : Int) (x3 : Int) : Option ((Int × Int × Int) ⊕ (Int × Int × Int)) :=
  zck (zR x3) <|
  if 8 ≤ x3 then
    some (.inr (x1, x2, x3))
  else
    zck (zR x3) <|
    if 8 ≤ x3 then
      some (.inr (x1, x2, x3))
    else
      zck (0 ≤ x3 ∧ x3 < 8) <|
      if 0 ≤ x3 ∧ x3 < nF then
        zck (0 ≤ x3 ∧ x3 < 8) <|
        zck (zR (sp_waiting x3)) <|
        if (sp_waiting x3) = 0 then
          some (.inl (x1, x2, (x3 + 1)))
        else
          if 0 ≤ x2 ∧ x2 < nF then
            zck (0 ≤ x3 ∧ x3 < nF) <|
            zck (0 ≤ x2 ∧ x2 < nF) <|
            zb1 (f_X6_comesAhead F_fd_colour F_fd_layer F_pt_xs F_pt_ys F_pt_size pl_needleX pl_needleY pl_colour nF x3 x2) fun r13 =>
            zck (zR r13) <|
            if r13 = 0 then
              some (.inl (x1, x2, (x3 + 1)))
            else
              some (.inl (x3, x3, (x3 + 1)))
          else
            some (.inl (x3, x3, (x3 + 1)))
      else
        some (.inl (x1, x2, (x3 + 1)))
def f_X6_sewNextField (sp_waiting : Int → Int) (sp_trimBound : Int) (F_fd_colour : Int → Int) (F_fd_layer : Int → Int) (F_pt_xs : Int → Int → Int) (F_pt_ys : Int → Int → Int) (F_pt_size : Int → Int) (pl_kinds : Int → Int) (pl_differencesX : Int → Int) (pl_differencesY : Int → Int) (pl_owners : Int → Int) (pl_kindCounts : Int → Int) (pl_threads : Int → Int) (pl_size : Int) (pl_seconds : UInt32) (pl_needleX : Int) (pl_needleY : Int) (pl_colour : Int) (nF : Int) : Option ((Int → Int) × (Int → Int) × (Int → Int) × (Int → Int) × (Int → Int) × (Int → Int) × (Int → Int) × Int × UInt32 × Int × Int × Int) :=
  zb3 (zlp (fun z => f_X6_sewNextField_L6 sp_waiting sp_trimBound F_fd_colour F_fd_layer F_pt_xs F_pt_ys F_pt_size pl_kinds pl_differencesX pl_differencesY pl_owners pl_kindCounts pl_threads pl_size pl_seconds pl_needleX pl_needleY pl_colour nF z.1 z.2.1 z.2.2) zFU ((-1), (-1), 0)) fun w20 w21 w22 =>
  if 0 ≤ w21 ∧ w21 < nF then
    zck (zR w20) <|
    if w20 < 0 then
      some (sp_waiting, pl_kinds, pl_differencesX, pl_differencesY, pl_owners, pl_kindCounts, pl_threads, pl_size, pl_seconds, pl_needleX, pl_needleY, pl_colour)
    else
      zck (zR w20) <|
      if 8 ≤ w20 then
        some (sp_waiting, pl_kinds, pl_differencesX, pl_differencesY, pl_owners, pl_kindCounts, pl_threads, pl_size, pl_seconds, pl_needleX, pl_needleY, pl_colour)
      else
        zck (0 ≤ w20 ∧ w20 < 8) <|
        zlt (zup sp_waiting w20 0) fun a31 =>
        zck (0 ≤ w21 ∧ w21 < nF) <|
        zck (0 ≤ w21 ∧ w21 < nF) <|
        zb11 (f_X3_sewField (F_fd_colour w21) (F_pt_xs w21) (F_pt_ys w21) (F_pt_size w21) pl_kinds pl_differencesX pl_differencesY pl_owners pl_kindCounts pl_threads pl_size pl_seconds pl_needleX pl_needleY pl_colour w20 sp_trimBound) fun a34 a35 a36 a37 a38 a39 u40 u41 u42 u43 u44 =>
        some (a31, a34, a35, a36, a37, a38, a39, u40, u41, u42, u43, u44)
  else
    some (sp_waiting, pl_kinds, pl_differencesX, pl_differencesY, pl_owners, pl_kindCounts, pl_threads, pl_size, pl_seconds, pl_needleX, pl_needleY, pl_colour)
def f_X6_refresh_L75 (sp_trimBound : Int) (sp_planned : Int) (F_fd_colour : Int → Int) (F_fd_layer : Int → Int) (F_fd_column : Int → Int) (F_fd_cornerXs : Int → Int → Int) (F_fd_cornerYs : Int → Int → Int) (F_fd_crossings : Int → Int → Int) (F_fd_cornerCount : Int → Int) (F_fd_crossingCount : Int → Int) (F_fd_density : Int → Int) (F_fd_length : Int → Int) (F_fd_shift : Int → Int) (F_fd_pull : Int → Int) (F_fd_underlay : Int → Int) (F_fd_drawn : Int → Int) (F_pt_xs : Int → Int → Int) (F_pt_ys : Int → Int → Int) (F_pt_size : Int → Int) (nF : Int) (x1 : Int) (sp_waiting : Int → Int) (pl_kinds : Int → Int) (pl_differencesX : Int → Int) (pl_differencesY : Int → Int) (pl_owners : Int → Int) (pl_kindCounts : Int → Int) (pl_threads : Int → Int) (pl_size : Int) (pl_seconds : UInt32) (pl_needleX : Int) (pl_needleY : Int) (pl_colour : Int) : Option ((Int × (Int → Int) × (Int → Int) × (Int → Int) × (Int → Int) × (Int → Int) × (Int → Int) × (Int → Int) × Int × UInt32 × Int × Int × Int) ⊕ (Int × (Int → Int) × (Int → Int) × (Int → Int) × (Int → Int) × (Int → Int) × (Int → Int) × (Int → Int) × Int × UInt32 × Int × Int × Int)) :=
  zck (zR x1) <|
  if 8 ≤ x1 then
    some (.inr (x1, sp_waiting, pl_kinds, pl_differencesX, pl_differencesY, pl_owners, pl_kindCounts, pl_threads, pl_size, pl_seconds, pl_needleX, pl_needleY, pl_colour))
  else
    zb12 (f_X6_sewNextField sp_waiting sp_trimBound F_fd_colour F_fd_layer F_pt_xs F_pt_ys F_pt_size pl_kinds pl_differencesX pl_differencesY pl_owners pl_kindCounts pl_threads pl_size pl_seconds pl_needleX pl_needleY pl_colour nF) fun a3 a4 a5 a6 a7 a8 a9 u10 u11 u12 u13 u14 =>
    some (.inl ((x1 + 1), a3, a4, a5, a6, a7, a8, a9, u10, u11, u12, u13, u14))
def f_X6_refresh_66 (sp_waiting : Int → Int) (sp_trimBound : Int) (sp_planned : Int) (F_fd_colour : Int → Int) (F_fd_layer : Int → Int) (F_fd_column : Int → Int) (F_fd_cornerXs : Int → Int → Int) (F_fd_cornerYs : Int → Int → Int) (F_fd_crossings : Int → Int → Int) (F_fd_cornerCount : Int → Int) (F_fd_crossingCount : Int → Int) (F_fd_density : Int → Int) (F_fd_length : Int → Int) (F_fd_shift : Int → Int) (F_fd_pull : Int → Int) (F_fd_underlay : Int → Int) (F_fd_drawn : Int → Int) (F_pt_xs : Int → Int → Int) (F_pt_ys : Int → Int → Int) (F_pt_size : Int → Int) (pl_kinds : Int → Int) (pl_differencesX : Int → Int) (pl_differencesY : Int → Int) (pl_owners : Int → Int) (pl_kindCounts : Int → Int) (pl_threads : Int → Int) (pl_size : Int) (pl_seconds : UInt32) (pl_needleX : Int) (pl_needleY : Int) (pl_colour : Int) (nF : Int) : Option ((Int → Int) × Int × (Int → Int → Int) × (Int → Int) × (Int → Int) × (Int → Int → Int) × (Int → Int → Int) × (Int → Int) × (Int → Int) × (Int → Int) × (Int → Int) × (Int → Int) × (Int → Int) × (Int → Int) × Int × UInt32 × Int × Int × Int) :=
  zb7 (f_X3_begin pl_kindCounts pl_threads pl_size pl_seconds pl_needleX pl_needleY pl_colour) fun a17 a18 u19 u20 u21 u22 u23 =>
  zb13 (zlp (fun z => f_X6_refresh_L75 sp_trimBound sp_planned F_fd_colour F_fd_layer F_fd_column F_fd_cornerXs F_fd_cornerYs F_fd_crossings F_fd_cornerCount F_fd_crossingCount F_fd_density F_fd_length F_fd_shift F_fd_pull F_fd_underlay F_fd_drawn F_pt_xs F_pt_ys F_pt_size nF z.1 z.2.1 z.2.2.1 z.2.2.2.1 z.2.2.2.2.1 z.2.2.2.2.2.1 z.2.2.2.2.2.2.1 z.2.2.2.2.2.2.2.1 z.2.2.2.2.2.2.2.2.1 z.2.2.2.2.2.2.2.2.2.1 z.2.2.2.2.2.2.2.2.2.2.1 z.2.2.2.2.2.2.2.2.2.2.2.1 z.2.2.2.2.2.2.2.2.2.2.2.2) zFU (0, sp_waiting, pl_kinds, pl_differencesX, pl_differencesY, pl_owners, a17, a18, u19, u20, u21, u22, u23)) fun w27 w28 w29 w30 w31 w32 w33 w34 w35 w36 w37 w38 w39 =>
  zb8 (f_X3_put w29 w30 w31 w32 w33 w34 w35 w36 w39 4 0 0 (-1)) fun a41 a42 a43 a44 a45 a46 u47 u48 =>
  some (w28, 1, F_fd_crossings, F_fd_crossingCount, F_fd_drawn, F_pt_xs, F_pt_ys, F_pt_size, a41, a42, a43, a44, a45, a46, u47, u48, w37, w38, w39)
def f_X6_refresh_L10_59 (sp_waiting : Int → Int) (sp_trimBound : Int) (sp_planned : Int) (F_fd_colour : Int → Int) (F_fd_layer : Int → Int) (F_fd_column : Int → Int) (F_fd_cornerXs : Int → Int → Int) (F_fd_cornerYs : Int → Int → Int) (F_fd_crossings : Int → Int → Int) (F_fd_cornerCount : Int → Int) (F_fd_crossingCount : Int → Int) (F_fd_density : Int → Int) (F_fd_length : Int → Int) (F_fd_shift : Int → Int) (F_fd_pull : Int → Int) (F_fd_underlay : Int → Int) (F_fd_drawn : Int → Int) (F_pt_xs : Int → Int → Int) (F_pt_ys : Int → Int → Int) (F_pt_size : Int → Int) (pl_kinds : Int → Int) (pl_differencesX : Int → Int) (pl_differencesY : Int → Int) (pl_owners : Int → Int) (pl_kindCounts : Int → Int) (pl_threads : Int → Int) (pl_size : Int) (pl_seconds : UInt32) (pl_needleX : Int) (pl_needleY : Int) (pl_colour : Int) (nF : Int) (x1 : Int) (s1 : Int) (s2 : Int) : Option ((Int × (Int → Int) × (Int → Int → Int) × (Int → Int) × (Int → Int) × (Int → Int → Int) × (Int → Int → Int) × (Int → Int)) ⊕ (Int × (Int → Int) × (Int → Int → Int) × (Int → Int) × (Int → Int) × (Int → Int → Int) × (Int → Int → Int) × (Int → Int))) :=
  zck (0 ≤ s1 ∧ s1 < 8) <|
  zck (s2 = 0 ∨ s2 = 1) <|
  zlt (zup sp_waiting s1 s2) fun a55 =>
  some (.inl ((x1 + 1), a55, F_fd_crossings, F_fd_crossingCount, F_fd_drawn, F_pt_xs, F_pt_ys, F_pt_size))
def f_X6_refresh_L10_58 (sp_waiting : Int → Int) (sp_trimBound : Int) (sp_planned : Int) (F_fd_colour : Int → Int) (F_fd_layer : Int → Int) (F_fd_column : Int → Int) (F_fd_cornerXs : Int → Int → Int) (F_fd_cornerYs : Int → Int → Int) (F_fd_crossings : Int → Int → Int) (F_fd_cornerCount : Int → Int) (F_fd_crossingCount : Int → Int) (F_fd_density : Int → Int) (F_fd_length : Int → Int) (F_fd_shift : Int → Int) (F_fd_pull : Int → Int) (F_fd_underlay : Int → Int) (F_fd_drawn : Int → Int) (F_pt_xs : Int → Int → Int) (F_pt_ys : Int → Int → Int) (F_pt_size : Int → Int) (pl_kinds : Int → Int) (pl_differencesX : Int → Int) (pl_differencesY : Int → Int) (pl_owners : Int → Int) (pl_kindCounts : Int → Int) (pl_threads : Int → Int) (pl_size : Int) (pl_seconds : UInt32) (pl_needleX : Int) (pl_needleY : Int) (pl_colour : Int) (nF : Int) (x1 : Int) (s1 : Int) : Option ((Int × (Int → Int) × (Int → Int → Int) × (Int → Int) × (Int → Int) × (Int → Int → Int) × (Int → Int → Int) × (Int → Int)) ⊕ (Int × (Int → Int) × (Int → Int → Int) × (Int → Int) × (Int → Int) × (Int → Int → Int) × (Int → Int → Int) × (Int → Int))) :=
  f_X6_refresh_L10_59 sp_waiting sp_trimBound sp_planned F_fd_colour F_fd_layer F_fd_column F_fd_cornerXs F_fd_cornerYs F_fd_crossings F_fd_cornerCount F_fd_crossingCount F_fd_density F_fd_length F_fd_shift F_fd_pull F_fd_underlay F_fd_drawn F_pt_xs F_pt_ys F_pt_size pl_kinds pl_differencesX pl_differencesY pl_owners pl_kindCounts pl_threads pl_size pl_seconds pl_needleX pl_needleY pl_colour nF x1 s1 0
def f_X6_refresh_L10 (sp_trimBound : Int) (sp_planned : Int) (F_fd_colour : Int → Int) (F_fd_layer : Int → Int) (F_fd_column : Int → Int) (F_fd_cornerXs : Int → Int → Int) (F_fd_cornerYs : Int → Int → Int) (F_fd_cornerCount : Int → Int) (F_fd_density : Int → Int) (F_fd_length : Int → Int) (F_fd_shift : Int → Int) (F_fd_pull : Int → Int) (F_fd_underlay : Int → Int) (pl_kinds : Int → Int) (pl_differencesX : Int → Int) (pl_differencesY : Int → Int) (pl_owners : Int → Int) (pl_kindCounts : Int → Int) (pl_threads : Int → Int) (pl_size : Int) (pl_seconds : UInt32) (pl_needleX : Int) (pl_needleY : Int) (pl_colour : Int) (nF : Int) (x1 : Int) (sp_waiting : Int → Int) (F_fd_crossings : Int → Int → Int) (F_fd_crossingCount : Int → Int) (F_fd_drawn : Int → Int) (F_pt_xs : Int → Int → Int) (F_pt_ys : Int → Int → Int) (F_pt_size : Int → Int) : Option ((Int × (Int → Int) × (Int → Int → Int) × (Int → Int) × (Int → Int) × (Int → Int → Int) × (Int → Int → Int) × (Int → Int)) ⊕ (Int × (Int → Int) × (Int → Int → Int) × (Int → Int) × (Int → Int) × (Int → Int → Int) × (Int → Int → Int) × (Int → Int))) :=
  zck (zR x1) <|
  if 8 ≤ x1 then
    some (.inr (x1, sp_waiting, F_fd_crossings, F_fd_crossingCount, F_fd_drawn, F_pt_xs, F_pt_ys, F_pt_size))
  else
    zck (zR x1) <|
    if 8 ≤ x1 then
      some (.inr (x1, sp_waiting, F_fd_crossings, F_fd_crossingCount, F_fd_drawn, F_pt_xs, F_pt_ys, F_pt_size))
    else
      zck (0 ≤ x1 ∧ x1 < 8) <|
      if 0 ≤ x1 ∧ x1 < nF then
        zck (0 ≤ x1 ∧ x1 < nF) <|
        zck (0 ≤ x1 ∧ x1 < nF) <|
        zb6 (f_X0_needlePoints (F_fd_column x1) (F_fd_cornerXs x1) (F_fd_cornerYs x1) (F_fd_crossings x1) (F_fd_cornerCount x1) (F_fd_crossingCount x1) (F_fd_density x1) (F_fd_length x1) (F_fd_shift x1) (F_fd_pull x1) (F_fd_underlay x1) (F_fd_drawn x1) (F_pt_xs x1) (F_pt_ys x1) (F_pt_size x1)) fun a64 u65 u66 a67 a68 u69 =>
        zlt (zup F_fd_crossings x1 a64) fun b73 =>
        zlt (zup F_fd_crossingCount x1 u65) fun b74 =>
        zlt (zup F_fd_drawn x1 u66) fun b75 =>
        zlt (zup F_pt_xs x1 a67) fun b76 =>
        zlt (zup F_pt_ys x1 a68) fun b77 =>
        zlt (zup F_pt_size x1 u69) fun b78 =>
        zck (0 ≤ x1 ∧ x1 < nF) <|
        zck (zR (b78 x1)) <|
        if (b78 x1) ≤ 0 then
          f_X6_refresh_L10_58 sp_waiting sp_trimBound sp_planned F_fd_colour F_fd_layer F_fd_column F_fd_cornerXs F_fd_cornerYs b73 F_fd_cornerCount b74 F_fd_density F_fd_length F_fd_shift F_fd_pull F_fd_underlay b75 b76 b77 b78 pl_kinds pl_differencesX pl_differencesY pl_owners pl_kindCounts pl_threads pl_size pl_seconds pl_needleX pl_needleY pl_colour nF x1 x1
        else
          f_X6_refresh_L10_59 sp_waiting sp_trimBound sp_planned F_fd_colour F_fd_layer F_fd_column F_fd_cornerXs F_fd_cornerYs b73 F_fd_cornerCount b74 F_fd_density F_fd_length F_fd_shift F_fd_pull F_fd_underlay b75 b76 b77 b78 pl_kinds pl_differencesX pl_differencesY pl_owners pl_kindCounts pl_threads pl_size pl_seconds pl_needleX pl_needleY pl_colour nF x1 x1 1
      else
        f_X6_refresh_L10_58 sp_waiting sp_trimBound sp_planned F_fd_colour F_fd_layer F_fd_column F_fd_cornerXs F_fd_cornerYs F_fd_crossings F_fd_cornerCount F_fd_crossingCount F_fd_density F_fd_length F_fd_shift F_fd_pull F_fd_underlay F_fd_drawn F_pt_xs F_pt_ys F_pt_size pl_kinds pl_differencesX pl_differencesY pl_owners pl_kindCounts pl_threads pl_size pl_seconds pl_needleX pl_needleY pl_colour nF x1 x1
def f_X6_refresh (sp_waiting : Int → Int) (sp_trimBound : Int) (sp_planned : Int) (F_fd_colour : Int → Int) (F_fd_layer : Int → Int) (F_fd_column : Int → Int) (F_fd_cornerXs : Int → Int → Int) (F_fd_cornerYs : Int → Int → Int) (F_fd_crossings : Int → Int → Int) (F_fd_cornerCount : Int → Int) (F_fd_crossingCount : Int → Int) (F_fd_density : Int → Int) (F_fd_length : Int → Int) (F_fd_shift : Int → Int) (F_fd_pull : Int → Int) (F_fd_underlay : Int → Int) (F_fd_drawn : Int → Int) (F_pt_xs : Int → Int → Int) (F_pt_ys : Int → Int → Int) (F_pt_size : Int → Int) (pl_kinds : Int → Int) (pl_differencesX : Int → Int) (pl_differencesY : Int → Int) (pl_owners : Int → Int) (pl_kindCounts : Int → Int) (pl_threads : Int → Int) (pl_size : Int) (pl_seconds : UInt32) (pl_needleX : Int) (pl_needleY : Int) (pl_colour : Int) (nF : Int) : Option ((Int → Int) × Int × (Int → Int → Int) × (Int → Int) × (Int → Int) × (Int → Int → Int) × (Int → Int → Int) × (Int → Int) × (Int → Int) × (Int → Int) × (Int → Int) × (Int → Int) × (Int → Int) × (Int → Int) × Int × UInt32 × Int × Int × Int) :=
  zck (zR sp_planned) <|
  if sp_planned = 0 then
    zb8 (zlp (fun z => f_X6_refresh_L10 sp_trimBound sp_planned F_fd_colour F_fd_layer F_fd_column F_fd_cornerXs F_fd_cornerYs F_fd_cornerCount F_fd_density F_fd_length F_fd_shift F_fd_pull F_fd_underlay pl_kinds pl_differencesX pl_differencesY pl_owners pl_kindCounts pl_threads pl_size pl_seconds pl_needleX pl_needleY pl_colour nF z.1 z.2.1 z.2.2.1 z.2.2.2.1 z.2.2.2.2.1 z.2.2.2.2.2.1 z.2.2.2.2.2.2.1 z.2.2.2.2.2.2.2) zFU (0, sp_waiting, F_fd_crossings, F_fd_crossingCount, F_fd_drawn, F_pt_xs, F_pt_ys, F_pt_size)) fun w85 w86 w87 w88 w89 w90 w91 w92 =>
    f_X6_refresh_66 w86 sp_trimBound sp_planned F_fd_colour F_fd_layer F_fd_column F_fd_cornerXs F_fd_cornerYs w87 F_fd_cornerCount w88 F_fd_density F_fd_length F_fd_shift F_fd_pull F_fd_underlay w89 w90 w91 w92 pl_kinds pl_differencesX pl_differencesY pl_owners pl_kindCounts pl_threads pl_size pl_seconds pl_needleX pl_needleY pl_colour nF
  else
    some (sp_waiting, sp_planned, F_fd_crossings, F_fd_crossingCount, F_fd_drawn, F_pt_xs, F_pt_ys, F_pt_size, pl_kinds, pl_differencesX, pl_differencesY, pl_owners, pl_kindCounts, pl_threads, pl_size, pl_seconds, pl_needleX, pl_needleY, pl_colour)
def f_X6_fieldNumbered (sp_fieldCount : Int) (nF : Int) (p1 : Int) : Option (Int × Int) :=
  zck (zR p1) <|
  if p1 < 0 then
    some (3, 0)
  else
    zck (zR p1 ∧ zR sp_fieldCount) <|
    if sp_fieldCount ≤ p1 then
      some (3, 0)
    else
      zck (zR p1) <|
      if p1 < 8 then
        zck (0 ≤ p1 ∧ p1 < 8) <|
        if 0 ≤ p1 ∧ p1 < nF then
          zck (0 ≤ p1 ∧ p1 < nF) <|
          some (0, p1)
        else
          some (3, 0)
      else
        some (3, 0)
def f_X6_corner (sp_fieldCount : Int) (sp_planned : Int) (F_fd_column : Int → Int) (F_fd_cornerXs : Int → Int → Int) (F_fd_cornerYs : Int → Int → Int) (F_fd_cornerCount : Int → Int) (F_fd_drawn : Int → Int) (nF : Int) (p1 : Int) (p2 : Int) (p3 : Int) : Option (Int × Int × Int × (Int → Int → Int) × (Int → Int → Int) × (Int → Int) × (Int → Int)) :=
  zb2 (f_X6_fieldNumbered sp_fieldCount nF p1) fun t1 r2 =>
  if ¬ t1 = 0 then some (t1, 0, sp_planned, F_fd_cornerXs, F_fd_cornerYs, F_fd_cornerCount, F_fd_drawn) else
  zb1 (f_X6_isWithin p2 0 31) fun r6 =>
  zck (zR r6) <|
  if r6 = 0 then
    some (1, 0, sp_planned, F_fd_cornerXs, F_fd_cornerYs, F_fd_cornerCount, F_fd_drawn)
  else
    zb1 (f_X6_isWithin p3 0 31) fun r12 =>
    zck (zR r12) <|
    if r12 = 0 then
      some (1, 0, sp_planned, F_fd_cornerXs, F_fd_cornerYs, F_fd_cornerCount, F_fd_drawn)
    else
      zck (0 ≤ r2 ∧ r2 < nF) <|
      zb1 (f_X0_isFull (F_fd_column r2) (F_fd_cornerCount r2)) fun r19 =>
      zck (zR r19) <|
      if r19 = 0 then
        zck (0 ≤ r2 ∧ r2 < nF) <|
        zb4 (f_X0_putCorner (F_fd_cornerXs r2) (F_fd_cornerYs r2) (F_fd_cornerCount r2) (F_fd_drawn r2) p2 p3) fun a26 a27 u28 u29 =>
        zlt (zup F_fd_cornerXs r2 a26) fun b32 =>
        zlt (zup F_fd_cornerYs r2 a27) fun b33 =>
        zlt (zup F_fd_cornerCount r2 u28) fun b34 =>
        zlt (zup F_fd_drawn r2 u29) fun b35 =>
        zck (0 ≤ r2 ∧ r2 < nF) <|
        some (0, (b34 r2), 0, b32, b33, b34, b35)
      else
        some (2, 0, sp_planned, F_fd_cornerXs, F_fd_cornerYs, F_fd_cornerCount, F_fd_drawn)
def f_X6_sew (sp_fieldCount : Int) (sp_planned : Int) (F_fd_density : Int → Int) (F_fd_length : Int → Int) (F_fd_shift : Int → Int) (F_fd_pull : Int → Int) (F_fd_underlay : Int → Int) (F_fd_drawn : Int → Int) (nF : Int) (p1 : Int) (p2 : Int) (p3 : Int) (p4 : Int) (p5 : Int) (p6 : Int) : Option (Int × Int × (Int → Int) × (Int → Int) × (Int → Int) × (Int → Int) × (Int → Int) × (Int → Int)) :=
  zb2 (f_X6_fieldNumbered sp_fieldCount nF p1) fun t1 r2 =>
  if ¬ t1 = 0 then some (t1, sp_planned, F_fd_density, F_fd_length, F_fd_shift, F_fd_pull, F_fd_underlay, F_fd_drawn) else
  zb1 (f_X6_isWithin p2 1 8) fun r6 =>
  zck (zR r6) <|
  if r6 = 0 then
    some (1, sp_planned, F_fd_density, F_fd_length, F_fd_shift, F_fd_pull, F_fd_underlay, F_fd_drawn)
  else
    zb1 (f_X6_isWithin p3 1 12) fun r12 =>
    zck (zR r12) <|
    if r12 = 0 then
      some (1, sp_planned, F_fd_density, F_fd_length, F_fd_shift, F_fd_pull, F_fd_underlay, F_fd_drawn)
    else
      zb1 (f_X6_isWithin p4 0 11) fun r18 =>
      zck (zR r18) <|
      if r18 = 0 then
        some (1, sp_planned, F_fd_density, F_fd_length, F_fd_shift, F_fd_pull, F_fd_underlay, F_fd_drawn)
      else
        zb1 (f_X6_isWithin p5 0 3) fun r24 =>
        zck (zR r24) <|
        if r24 = 0 then
          some (1, sp_planned, F_fd_density, F_fd_length, F_fd_shift, F_fd_pull, F_fd_underlay, F_fd_drawn)
        else
          zck (0 ≤ r2 ∧ r2 < nF) <|
          zb6 (f_X0_settle (F_fd_density r2) (F_fd_length r2) (F_fd_shift r2) (F_fd_pull r2) (F_fd_underlay r2) (F_fd_drawn r2) p2 p3 p4 p5 p6) fun u31 u32 u33 u34 u35 u36 =>
          zlt (zup F_fd_density r2 u31) fun b39 =>
          zlt (zup F_fd_length r2 u32) fun b40 =>
          zlt (zup F_fd_shift r2 u33) fun b41 =>
          zlt (zup F_fd_pull r2 u34) fun b42 =>
          zlt (zup F_fd_underlay r2 u35) fun b43 =>
          zlt (zup F_fd_drawn r2 u36) fun b44 =>
          some (0, 0, b39, b40, b41, b42, b43, b44)
def f_X6_scale (sp_fieldCount : Int) (sp_planned : Int) (F_fd_cornerXs : Int → Int → Int) (F_fd_cornerYs : Int → Int → Int) (F_fd_cornerCount : Int → Int) (F_fd_drawn : Int → Int) (nF : Int) (p1 : Int) (p2 : Int) : Option (Int × Int × (Int → Int → Int) × (Int → Int → Int) × (Int → Int)) :=
  zb2 (f_X6_fieldNumbered sp_fieldCount nF p1) fun t1 r2 =>
  if ¬ t1 = 0 then some (t1, sp_planned, F_fd_cornerXs, F_fd_cornerYs, F_fd_drawn) else
  zb1 (f_X6_isWithin p2 1 400) fun r6 =>
  zck (zR r6) <|
  if r6 = 0 then
    some (1, sp_planned, F_fd_cornerXs, F_fd_cornerYs, F_fd_drawn)
  else
    zck (0 ≤ r2 ∧ r2 < nF) <|
    zb1 (f_X0_canResize (F_fd_cornerXs r2) (F_fd_cornerYs r2) (F_fd_cornerCount r2) p2) fun r13 =>
    zck (zR r13) <|
    if r13 = 0 then
      some (2, sp_planned, F_fd_cornerXs, F_fd_cornerYs, F_fd_drawn)
    else
      zck (0 ≤ r2 ∧ r2 < nF) <|
      zb3 (f_X0_resize (F_fd_cornerXs r2) (F_fd_cornerYs r2) (F_fd_cornerCount r2) (F_fd_drawn r2) p2) fun a20 a21 u22 =>
      zlt (zup F_fd_cornerXs r2 a20) fun b25 =>
      zlt (zup F_fd_cornerYs r2 a21) fun b26 =>
      zlt (zup F_fd_drawn r2 u22) fun b27 =>
      some (0, 0, b25, b26, b27)
def f_X6_bound (sp_trimBound : Int) (sp_planned : Int) (p1 : Int) : Option (Int × Int × Int × Int) :=
  zb1 (f_X6_isWithin p1 0 100) fun r1 =>
  zck (zR r1) <|
  if r1 = 0 then
    some (1, 0, sp_trimBound, sp_planned)
  else
    some (0, sp_trimBound, p1, 0)
def f_X6_commands (sp_waiting : Int → Int) (sp_trimBound : Int) (sp_planned : Int) (F_fd_colour : Int → Int) (F_fd_layer : Int → Int) (F_fd_column : Int → Int) (F_fd_cornerXs : Int → Int → Int) (F_fd_cornerYs : Int → Int → Int) (F_fd_crossings : Int → Int → Int) (F_fd_cornerCount : Int → Int) (F_fd_crossingCount : Int → Int) (F_fd_density : Int → Int) (F_fd_length : Int → Int) (F_fd_shift : Int → Int) (F_fd_pull : Int → Int) (F_fd_underlay : Int → Int) (F_fd_drawn : Int → Int) (F_pt_xs : Int → Int → Int) (F_pt_ys : Int → Int → Int) (F_pt_size : Int → Int) (pl_kinds : Int → Int) (pl_differencesX : Int → Int) (pl_differencesY : Int → Int) (pl_owners : Int → Int) (pl_kindCounts : Int → Int) (pl_threads : Int → Int) (pl_size : Int) (pl_seconds : UInt32) (pl_needleX : Int) (pl_needleY : Int) (pl_colour : Int) (nF : Int) : Option (Int × (Int → Int) × Int × (Int → Int → Int) × (Int → Int) × (Int → Int) × (Int → Int → Int) × (Int → Int → Int) × (Int → Int) × (Int → Int) × (Int → Int) × (Int → Int) × (Int → Int) × (Int → Int) × (Int → Int) × Int × UInt32 × Int × Int × Int) :=
  zb19 (f_X6_refresh sp_waiting sp_trimBound sp_planned F_fd_colour F_fd_layer F_fd_column F_fd_cornerXs F_fd_cornerYs F_fd_crossings F_fd_cornerCount F_fd_crossingCount F_fd_density F_fd_length F_fd_shift F_fd_pull F_fd_underlay F_fd_drawn F_pt_xs F_pt_ys F_pt_size pl_kinds pl_differencesX pl_differencesY pl_owners pl_kindCounts pl_threads pl_size pl_seconds pl_needleX pl_needleY pl_colour nF) fun a1 u2 u3 u4 u5 u6 u7 u8 a9 a10 a11 a12 a13 a14 u15 u16 u17 u18 u19 =>
  some (u15, a1, u2, u3, u4, u5, u6, u7, u8, a9, a10, a11, a12, a13, a14, u15, u16, u17, u18, u19)
def f_X6_ofCommand (sp_waiting : Int → Int) (sp_trimBound : Int) (sp_planned : Int) (F_fd_colour : Int → Int) (F_fd_layer : Int → Int) (F_fd_column : Int → Int) (F_fd_cornerXs : Int → Int → Int) (F_fd_cornerYs : Int → Int → Int) (F_fd_crossings : Int → Int → Int) (F_fd_cornerCount : Int → Int) (F_fd_crossingCount : Int → Int) (F_fd_density : Int → Int) (F_fd_length : Int → Int) (F_fd_shift : Int → Int) (F_fd_pull : Int → Int) (F_fd_underlay : Int → Int) (F_fd_drawn : Int → Int) (F_pt_xs : Int → Int → Int) (F_pt_ys : Int → Int → Int) (F_pt_size : Int → Int) (pl_kinds : Int → Int) (pl_differencesX : Int → Int) (pl_differencesY : Int → Int) (pl_owners : Int → Int) (pl_kindCounts : Int → Int) (pl_threads : Int → Int) (pl_size : Int) (pl_seconds : UInt32) (pl_needleX : Int) (pl_needleY : Int) (pl_colour : Int) (nF : Int) (p1 : Int) (p2 : Int) : Option (Int × Int × (Int → Int) × Int × (Int → Int → Int) × (Int → Int) × (Int → Int) × (Int → Int → Int) × (Int → Int → Int) × (Int → Int) × (Int → Int) × (Int → Int) × (Int → Int) × (Int → Int) × (Int → Int) × (Int → Int) × Int × UInt32 × Int × Int × Int) :=
  zb19 (f_X6_refresh sp_waiting sp_trimBound sp_planned F_fd_colour F_fd_layer F_fd_column F_fd_cornerXs F_fd_cornerYs F_fd_crossings F_fd_cornerCount F_fd_crossingCount F_fd_density F_fd_length F_fd_shift F_fd_pull F_fd_underlay F_fd_drawn F_pt_xs F_pt_ys F_pt_size pl_kinds pl_differencesX pl_differencesY pl_owners pl_kindCounts pl_threads pl_size pl_seconds pl_needleX pl_needleY pl_colour nF) fun a1 u2 u3 u4 u5 u6 u7 u8 a9 a10 a11 a12 a13 a14 u15 u16 u17 u18 u19 =>
  zb1 (f_X6_isWithin p1 0 (u15 - 1)) fun r22 =>
  zck (zR r22) <|
  if r22 = 0 then
    some (3, 0, a1, u2, u3, u4, u5, u6, u7, u8, a9, a10, a11, a12, a13, a14, u15, u16, u17, u18, u19)
  else
    zb1 (f_X6_isWithin p2 0 3) fun r28 =>
    zck (zR r28) <|
    if r28 = 0 then
      some (1, 0, a1, u2, u3, u4, u5, u6, u7, u8, a9, a10, a11, a12, a13, a14, u15, u16, u17, u18, u19)
    else
      zb1 (f_X3_told a9 a10 a11 a12 p1 p2) fun r34 =>
      some (0, r34, a1, u2, u3, u4, u5, u6, u7, u8, a9, a10, a11, a12, a13, a14, u15, u16, u17, u18, u19)
def f_X6_count (sp_waiting : Int → Int) (sp_trimBound : Int) (sp_planned : Int) (F_fd_colour : Int → Int) (F_fd_layer : Int → Int) (F_fd_column : Int → Int) (F_fd_cornerXs : Int → Int → Int) (F_fd_cornerYs : Int → Int → Int) (F_fd_crossings : Int → Int → Int) (F_fd_cornerCount : Int → Int) (F_fd_crossingCount : Int → Int) (F_fd_density : Int → Int) (F_fd_length : Int → Int) (F_fd_shift : Int → Int) (F_fd_pull : Int → Int) (F_fd_underlay : Int → Int) (F_fd_drawn : Int → Int) (F_pt_xs : Int → Int → Int) (F_pt_ys : Int → Int → Int) (F_pt_size : Int → Int) (pl_kinds : Int → Int) (pl_differencesX : Int → Int) (pl_differencesY : Int → Int) (pl_owners : Int → Int) (pl_kindCounts : Int → Int) (pl_threads : Int → Int) (pl_size : Int) (pl_seconds : UInt32) (pl_needleX : Int) (pl_needleY : Int) (pl_colour : Int) (nF : Int) (p1 : Int) : Option (Int × Int × (Int → Int) × Int × (Int → Int → Int) × (Int → Int) × (Int → Int) × (Int → Int → Int) × (Int → Int → Int) × (Int → Int) × (Int → Int) × (Int → Int) × (Int → Int) × (Int → Int) × (Int → Int) × (Int → Int) × Int × UInt32 × Int × Int × Int) :=
  zb1 (f_X6_isWithin p1 0 4) fun r1 =>
  zck (zR r1) <|
  if r1 = 0 then
    some (1, 0, sp_waiting, sp_planned, F_fd_crossings, F_fd_crossingCount, F_fd_drawn, F_pt_xs, F_pt_ys, F_pt_size, pl_kinds, pl_differencesX, pl_differencesY, pl_owners, pl_kindCounts, pl_threads, pl_size, pl_seconds, pl_needleX, pl_needleY, pl_colour)
  else
    zb19 (f_X6_refresh sp_waiting sp_trimBound sp_planned F_fd_colour F_fd_layer F_fd_column F_fd_cornerXs F_fd_cornerYs F_fd_crossings F_fd_cornerCount F_fd_crossingCount F_fd_density F_fd_length F_fd_shift F_fd_pull F_fd_underlay F_fd_drawn F_pt_xs F_pt_ys F_pt_size pl_kinds pl_differencesX pl_differencesY pl_owners pl_kindCounts pl_threads pl_size pl_seconds pl_needleX pl_needleY pl_colour nF) fun a7 u8 u9 u10 u11 u12 u13 u14 a15 a16 a17 a18 a19 a20 u21 u22 u23 u24 u25 =>
    zck (0 ≤ p1 ∧ p1 < 5) <|
    some (0, (a19 p1), a7, u8, u9, u10, u11, u12, u13, u14, a15, a16, a17, a18, a19, a20, u21, u22, u23, u24, u25)
def f_X6_time (sp_waiting : Int → Int) (sp_trimBound : Int) (sp_planned : Int) (F_fd_colour : Int → Int) (F_fd_layer : Int → Int) (F_fd_column : Int → Int) (F_fd_cornerXs : Int → Int → Int) (F_fd_cornerYs : Int → Int → Int) (F_fd_crossings : Int → Int → Int) (F_fd_cornerCount : Int → Int) (F_fd_crossingCount : Int → Int) (F_fd_density : Int → Int) (F_fd_length : Int → Int) (F_fd_shift : Int → Int) (F_fd_pull : Int → Int) (F_fd_underlay : Int → Int) (F_fd_drawn : Int → Int) (F_pt_xs : Int → Int → Int) (F_pt_ys : Int → Int → Int) (F_pt_size : Int → Int) (pl_kinds : Int → Int) (pl_differencesX : Int → Int) (pl_differencesY : Int → Int) (pl_owners : Int → Int) (pl_kindCounts : Int → Int) (pl_threads : Int → Int) (pl_size : Int) (pl_seconds : UInt32) (pl_needleX : Int) (pl_needleY : Int) (pl_colour : Int) (nF : Int) : Option (UInt32 × (Int → Int) × Int × (Int → Int → Int) × (Int → Int) × (Int → Int) × (Int → Int → Int) × (Int → Int → Int) × (Int → Int) × (Int → Int) × (Int → Int) × (Int → Int) × (Int → Int) × (Int → Int) × (Int → Int) × Int × UInt32 × Int × Int × Int) :=
  zb19 (f_X6_refresh sp_waiting sp_trimBound sp_planned F_fd_colour F_fd_layer F_fd_column F_fd_cornerXs F_fd_cornerYs F_fd_crossings F_fd_cornerCount F_fd_crossingCount F_fd_density F_fd_length F_fd_shift F_fd_pull F_fd_underlay F_fd_drawn F_pt_xs F_pt_ys F_pt_size pl_kinds pl_differencesX pl_differencesY pl_owners pl_kindCounts pl_threads pl_size pl_seconds pl_needleX pl_needleY pl_colour nF) fun a1 u2 u3 u4 u5 u6 u7 u8 a9 a10 a11 a12 a13 a14 u15 u16 u17 u18 u19 =>
  some (u16, a1, u2, u3, u4, u5, u6, u7, u8, a9, a10, a11, a12, a13, a14, u15, u16, u17, u18, u19)
def f_X6_thread (sp_waiting : Int → Int) (sp_trimBound : Int) (sp_planned : Int) (F_fd_colour : Int → Int) (F_fd_layer : Int → Int) (F_fd_column : Int → Int) (F_fd_cornerXs : Int → Int → Int) (F_fd_cornerYs : Int → Int → Int) (F_fd_crossings : Int → Int → Int) (F_fd_cornerCount : Int → Int) (F_fd_crossingCount : Int → Int) (F_fd_density : Int → Int) (F_fd_length : Int → Int) (F_fd_shift : Int → Int) (F_fd_pull : Int → Int) (F_fd_underlay : Int → Int) (F_fd_drawn : Int → Int) (F_pt_xs : Int → Int → Int) (F_pt_ys : Int → Int → Int) (F_pt_size : Int → Int) (pl_kinds : Int → Int) (pl_differencesX : Int → Int) (pl_differencesY : Int → Int) (pl_owners : Int → Int) (pl_kindCounts : Int → Int) (pl_threads : Int → Int) (pl_size : Int) (pl_seconds : UInt32) (pl_needleX : Int) (pl_needleY : Int) (pl_colour : Int) (nF : Int) (p1 : Int) : Option (Int × Int × (Int → Int) × Int × (Int → Int → Int) × (Int → Int) × (Int → Int) × (Int → Int → Int) × (Int → Int → Int) × (Int → Int) × (Int → Int) × (Int → Int) × (Int → Int) × (Int → Int) × (Int → Int) × (Int → Int) × Int × UInt32 × Int × Int × Int) :=
  zb1 (f_X6_isWithin p1 0 5) fun r1 =>
  zck (zR r1) <|
  if r1 = 0 then
    some (1, 0, sp_waiting, sp_planned, F_fd_crossings, F_fd_crossingCount, F_fd_drawn, F_pt_xs, F_pt_ys, F_pt_size, pl_kinds, pl_differencesX, pl_differencesY, pl_owners, pl_kindCounts, pl_threads, pl_size, pl_seconds, pl_needleX, pl_needleY, pl_colour)
  else
    zb19 (f_X6_refresh sp_waiting sp_trimBound sp_planned F_fd_colour F_fd_layer F_fd_column F_fd_cornerXs F_fd_cornerYs F_fd_crossings F_fd_cornerCount F_fd_crossingCount F_fd_density F_fd_length F_fd_shift F_fd_pull F_fd_underlay F_fd_drawn F_pt_xs F_pt_ys F_pt_size pl_kinds pl_differencesX pl_differencesY pl_owners pl_kindCounts pl_threads pl_size pl_seconds pl_needleX pl_needleY pl_colour nF) fun a7 u8 u9 u10 u11 u12 u13 u14 a15 a16 a17 a18 a19 a20 u21 u22 u23 u24 u25 =>
    zck (0 ≤ p1 ∧ p1 < 6) <|
    some (0, (a20 p1), a7, u8, u9, u10, u11, u12, u13, u14, a15, a16, a17, a18, a19, a20, u21, u22, u23, u24, u25)
def f_X6_covered (sp_fieldCount : Int) (F_fd_column : Int → Int) (F_fd_cornerXs : Int → Int → Int) (F_fd_cornerYs : Int → Int → Int) (F_fd_crossings : Int → Int → Int) (F_fd_cornerCount : Int → Int) (F_fd_crossingCount : Int → Int) (F_fd_density : Int → Int) (F_fd_length : Int → Int) (F_fd_shift : Int → Int) (F_fd_pull : Int → Int) (F_fd_underlay : Int → Int) (F_fd_drawn : Int → Int) (F_pt_xs : Int → Int → Int) (F_pt_ys : Int → Int → Int) (F_pt_size : Int → Int) (ra_cells : Int → Int) (ra_cellCount : Int) (nF : Int) (p1 : Int) : Option (Int × UInt32 × (Int → Int → Int) × (Int → Int) × (Int → Int) × (Int → Int → Int) × (Int → Int → Int) × (Int → Int) × (Int → Int) × Int) :=
  zb2 (f_X6_fieldNumbered sp_fieldCount nF p1) fun t1 r2 =>
  if ¬ t1 = 0 then some (t1, 0, F_fd_crossings, F_fd_crossingCount, F_fd_drawn, F_pt_xs, F_pt_ys, F_pt_size, ra_cells, ra_cellCount) else
  zck (0 ≤ r2 ∧ r2 < nF) <|
  zck (zR (F_fd_column r2)) <|
  if (F_fd_column r2) = 0 then
    zck (0 ≤ r2 ∧ r2 < nF) <|
    zb6 (f_X0_needlePoints (F_fd_column r2) (F_fd_cornerXs r2) (F_fd_cornerYs r2) (F_fd_crossings r2) (F_fd_cornerCount r2) (F_fd_crossingCount r2) (F_fd_density r2) (F_fd_length r2) (F_fd_shift r2) (F_fd_pull r2) (F_fd_underlay r2) (F_fd_drawn r2) (F_pt_xs r2) (F_pt_ys r2) (F_pt_size r2)) fun a10 u11 u12 a13 a14 u15 =>
    zlt (zup F_fd_crossings r2 a10) fun b19 =>
    zlt (zup F_fd_crossingCount r2 u11) fun b20 =>
    zlt (zup F_fd_drawn r2 u12) fun b21 =>
    zlt (zup F_pt_xs r2 a13) fun b22 =>
    zlt (zup F_pt_ys r2 a14) fun b23 =>
    zlt (zup F_pt_size r2 u15) fun b24 =>
    zck (0 ≤ r2 ∧ r2 < nF) <|
    zb2 (f_X5_walk (b22 r2) (b23 r2) (b24 r2) ra_cells ra_cellCount) fun a26 u27 =>
    zck (0 ≤ r2 ∧ r2 < nF) <|
    zb3 (f_X5_partCovered (F_fd_cornerXs r2) (F_fd_cornerYs r2) (b19 r2) (F_fd_cornerCount r2) (b20 r2) (F_fd_density r2) a26) fun r31 a32 u33 =>
    zlt (zup b19 r2 a32) fun b37 =>
    zlt (zup b20 r2 u33) fun b38 =>
    some (0, r31, b37, b38, b21, b22, b23, b24, a26, u27)
  else
    some (0, 0, F_fd_crossings, F_fd_crossingCount, F_fd_drawn, F_pt_xs, F_pt_ys, F_pt_size, ra_cells, ra_cellCount)
def f_X6_touched (sp_fieldCount : Int) (F_fd_column : Int → Int) (F_fd_cornerXs : Int → Int → Int) (F_fd_cornerYs : Int → Int → Int) (F_fd_crossings : Int → Int → Int) (F_fd_cornerCount : Int → Int) (F_fd_crossingCount : Int → Int) (F_fd_density : Int → Int) (F_fd_length : Int → Int) (F_fd_shift : Int → Int) (F_fd_pull : Int → Int) (F_fd_underlay : Int → Int) (F_fd_drawn : Int → Int) (F_pt_xs : Int → Int → Int) (F_pt_ys : Int → Int → Int) (F_pt_size : Int → Int) (ra_cells : Int → Int) (ra_cellCount : Int) (nF : Int) (p1 : Int) : Option (Int × Int × (Int → Int → Int) × (Int → Int) × (Int → Int) × (Int → Int → Int) × (Int → Int → Int) × (Int → Int) × (Int → Int) × Int) :=
  zb2 (f_X6_fieldNumbered sp_fieldCount nF p1) fun t1 r2 =>
  if ¬ t1 = 0 then some (t1, 0, F_fd_crossings, F_fd_crossingCount, F_fd_drawn, F_pt_xs, F_pt_ys, F_pt_size, ra_cells, ra_cellCount) else
  zck (0 ≤ r2 ∧ r2 < nF) <|
  zb6 (f_X0_needlePoints (F_fd_column r2) (F_fd_cornerXs r2) (F_fd_cornerYs r2) (F_fd_crossings r2) (F_fd_cornerCount r2) (F_fd_crossingCount r2) (F_fd_density r2) (F_fd_length r2) (F_fd_shift r2) (F_fd_pull r2) (F_fd_underlay r2) (F_fd_drawn r2) (F_pt_xs r2) (F_pt_ys r2) (F_pt_size r2)) fun a7 u8 u9 a10 a11 u12 =>
  zlt (zup F_fd_crossings r2 a7) fun b16 =>
  zlt (zup F_fd_crossingCount r2 u8) fun b17 =>
  zlt (zup F_fd_drawn r2 u9) fun b18 =>
  zlt (zup F_pt_xs r2 a10) fun b19 =>
  zlt (zup F_pt_ys r2 a11) fun b20 =>
  zlt (zup F_pt_size r2 u12) fun b21 =>
  zck (0 ≤ r2 ∧ r2 < nF) <|
  zb2 (f_X5_walk (b19 r2) (b20 r2) (b21 r2) ra_cells ra_cellCount) fun a23 u24 =>
  some (0, u24, b16, b17, b18, b19, b20, b21, a23, u24)
def f_X6_write_19 (sp_waiting : Int → Int) (sp_trimBound : Int) (sp_planned : Int) (F_fd_colour : Int → Int) (F_fd_layer : Int → Int) (F_fd_column : Int → Int) (F_fd_cornerXs : Int → Int → Int) (F_fd_cornerYs : Int → Int → Int) (F_fd_crossings : Int → Int → Int) (F_fd_cornerCount : Int → Int) (F_fd_crossingCount : Int → Int) (F_fd_density : Int → Int) (F_fd_length : Int → Int) (F_fd_shift : Int → Int) (F_fd_pull : Int → Int) (F_fd_underlay : Int → Int) (F_fd_drawn : Int → Int) (F_pt_xs : Int → Int → Int) (F_pt_ys : Int → Int → Int) (F_pt_size : Int → Int) (pl_kinds : Int → Int) (pl_differencesX : Int → Int) (pl_differencesY : Int → Int) (pl_owners : Int → Int) (pl_kindCounts : Int → Int) (pl_threads : Int → Int) (pl_size : Int) (pl_seconds : UInt32) (pl_needleX : Int) (pl_needleY : Int) (pl_colour : Int) (pa_bytes : Int → Int) (pa_size : Int) (pa_format : Int) (nF : Int) (x1 : Int) : Option (Int × Int × (Int → Int) × Int × (Int → Int → Int) × (Int → Int) × (Int → Int) × (Int → Int → Int) × (Int → Int → Int) × (Int → Int) × (Int → Int) × (Int → Int) × (Int → Int) × (Int → Int) × (Int → Int) × (Int → Int) × Int × UInt32 × Int × Int × Int × (Int → Int) × Int × Int) :=
  zb19 (f_X6_refresh sp_waiting sp_trimBound sp_planned F_fd_colour F_fd_layer F_fd_column F_fd_cornerXs F_fd_cornerYs F_fd_crossings F_fd_cornerCount F_fd_crossingCount F_fd_density F_fd_length F_fd_shift F_fd_pull F_fd_underlay F_fd_drawn F_pt_xs F_pt_ys F_pt_size pl_kinds pl_differencesX pl_differencesY pl_owners pl_kindCounts pl_threads pl_size pl_seconds pl_needleX pl_needleY pl_colour nF) fun a1 u2 u3 u4 u5 u6 u7 u8 a9 a10 a11 a12 a13 a14 u15 u16 u17 u18 u19 =>
  zb3 (f_X2_take a9 a10 a11 a12 u15 pa_bytes pa_size pa_format x1) fun a22 u23 u24 =>
  some (0, u23, a1, u2, u3, u4, u5, u6, u7, u8, a9, a10, a11, a12, a13, a14, u15, u16, u17, u18, u19, a22, u23, u24)
def f_X6_write (sp_waiting : Int → Int) (sp_trimBound : Int) (sp_planned : Int) (F_fd_colour : Int → Int) (F_fd_layer : Int → Int) (F_fd_column : Int → Int) (F_fd_cornerXs : Int → Int → Int) (F_fd_cornerYs : Int → Int → Int) (F_fd_crossings : Int → Int → Int) (F_fd_cornerCount : Int → Int) (F_fd_crossingCount : Int → Int) (F_fd_density : Int → Int) (F_fd_length : Int → Int) (F_fd_shift : Int → Int) (F_fd_pull : Int → Int) (F_fd_underlay : Int → Int) (F_fd_drawn : Int → Int) (F_pt_xs : Int → Int → Int) (F_pt_ys : Int → Int → Int) (F_pt_size : Int → Int) (pl_kinds : Int → Int) (pl_differencesX : Int → Int) (pl_differencesY : Int → Int) (pl_owners : Int → Int) (pl_kindCounts : Int → Int) (pl_threads : Int → Int) (pl_size : Int) (pl_seconds : UInt32) (pl_needleX : Int) (pl_needleY : Int) (pl_colour : Int) (pa_bytes : Int → Int) (pa_size : Int) (pa_format : Int) (nF : Int) (p1 : Int) : Option (Int × Int × (Int → Int) × Int × (Int → Int → Int) × (Int → Int) × (Int → Int) × (Int → Int → Int) × (Int → Int → Int) × (Int → Int) × (Int → Int) × (Int → Int) × (Int → Int) × (Int → Int) × (Int → Int) × (Int → Int) × Int × UInt32 × Int × Int × Int × (Int → Int) × Int × Int) :=
  zck (zR p1) <|
  if p1 = 0 then
    f_X6_write_19 sp_waiting sp_trimBound sp_planned F_fd_colour F_fd_layer F_fd_column F_fd_cornerXs F_fd_cornerYs F_fd_crossings F_fd_cornerCount F_fd_crossingCount F_fd_density F_fd_length F_fd_shift F_fd_pull F_fd_underlay F_fd_drawn F_pt_xs F_pt_ys F_pt_size pl_kinds pl_differencesX pl_differencesY pl_owners pl_kindCounts pl_threads pl_size pl_seconds pl_needleX pl_needleY pl_colour pa_bytes pa_size pa_format nF p1
  else
    zck (zR p1) <|
    if p1 = 1 then
      f_X6_write_19 sp_waiting sp_trimBound sp_planned F_fd_colour F_fd_layer F_fd_column F_fd_cornerXs F_fd_cornerYs F_fd_crossings F_fd_cornerCount F_fd_crossingCount F_fd_density F_fd_length F_fd_shift F_fd_pull F_fd_underlay F_fd_drawn F_pt_xs F_pt_ys F_pt_size pl_kinds pl_differencesX pl_differencesY pl_owners pl_kindCounts pl_threads pl_size pl_seconds pl_needleX pl_needleY pl_colour pa_bytes pa_size pa_format nF p1
    else
      some (1, 0, sp_waiting, sp_planned, F_fd_crossings, F_fd_crossingCount, F_fd_drawn, F_pt_xs, F_pt_ys, F_pt_size, pl_kinds, pl_differencesX, pl_differencesY, pl_owners, pl_kindCounts, pl_threads, pl_size, pl_seconds, pl_needleX, pl_needleY, pl_colour, pa_bytes, pa_size, pa_format)
def f_X6_byteAt (pa_bytes : Int → Int) (pa_size : Int) (p1 : Int) : Option (Int × Int) :=
  zb1 (f_X2_has pa_size p1) fun r1 =>
  zck (zR r1) <|
  if r1 = 0 then
    some (3, 0)
  else
    zck (0 ≤ p1 ∧ p1 < 49924) <|
    some (0, (pa_bytes p1))
def f_X6_damage (pa_bytes : Int → Int) (pa_size : Int) (p1 : Int) (p2 : Int) : Option (Int × Int × (Int → Int)) :=
  zb1 (f_X2_has pa_size p1) fun r1 =>
  zck (zR r1) <|
  if r1 = 0 then
    some (3, 0, pa_bytes)
  else
    zb1 (f_X6_isWithin p2 0 255) fun r7 =>
    zck (zR r7) <|
    if r7 = 0 then
      some (1, 0, pa_bytes)
    else
      zck (0 ≤ p1 ∧ p1 < 49924) <|
      zlt ((pa_bytes p1)) fun v14 =>
      zck (0 ≤ p1 ∧ p1 < 49924) <|
      zlt (zup pa_bytes p1 p2) fun a17 =>
      some (0, v14, a17)
def f_X6_shorten (pa_size : Int) (p1 : Int) : Option (Int × Int × Int) :=
  zb1 (f_X6_isWithin p1 0 pa_size) fun r1 =>
  zck (zR r1) <|
  if r1 = 0 then
    some (1, 0, pa_size)
  else
    some (0, pa_size, p1)
def f_X6_fault (pa_bytes : Int → Int) (pa_size : Int) (pa_format : Int) (pa_faultPlace : Int) (pa_stitchesRead : Int) : Option (Int × Int × Int) :=
  zb2 (f_X2_inspect pa_bytes pa_size pa_format pa_faultPlace pa_stitchesRead) fun u1 u2 =>
  some (u1, u1, u2)
def f_X6_reads (pa_bytes : Int → Int) (pa_size : Int) (pa_format : Int) (pa_faultPlace : Int) (pa_stitchesRead : Int) : Option (Int × Int × Int) :=
  zb2 (f_X2_inspect pa_bytes pa_size pa_format pa_faultPlace pa_stitchesRead) fun u1 u2 =>
  some (u2, u1, u2)
def f_X6_start (sp_waiting : Int → Int) (sp_trimBound : Int) (sp_planned : Int) (F_fd_colour : Int → Int) (F_fd_layer : Int → Int) (F_fd_column : Int → Int) (F_fd_cornerXs : Int → Int → Int) (F_fd_cornerYs : Int → Int → Int) (F_fd_crossings : Int → Int → Int) (F_fd_cornerCount : Int → Int) (F_fd_crossingCount : Int → Int) (F_fd_density : Int → Int) (F_fd_length : Int → Int) (F_fd_shift : Int → Int) (F_fd_pull : Int → Int) (F_fd_underlay : Int → Int) (F_fd_drawn : Int → Int) (F_pt_xs : Int → Int → Int) (F_pt_ys : Int → Int → Int) (F_pt_size : Int → Int) (pl_kinds : Int → Int) (pl_differencesX : Int → Int) (pl_differencesY : Int → Int) (pl_owners : Int → Int) (pl_kindCounts : Int → Int) (pl_threads : Int → Int) (pl_size : Int) (pl_seconds : UInt32) (pl_needleX : Int) (pl_needleY : Int) (pl_colour : Int) (ma_stitchesAhead : Int → Int) (ma_broken : Int → Int) (ma_brokeAt : Int → Int) (ma_stitches : Int → Int) (ma_headCount : Int) (ma_late : Int) (ma_commandCount : Int) (ma_place : Int) (nF : Int) (p1 : Int) (p2 : Int) : Option (Int × (Int → Int) × Int × (Int → Int → Int) × (Int → Int) × (Int → Int) × (Int → Int → Int) × (Int → Int → Int) × (Int → Int) × (Int → Int) × (Int → Int) × (Int → Int) × (Int → Int) × (Int → Int) × (Int → Int) × Int × UInt32 × Int × Int × Int × (Int → Int) × (Int → Int) × (Int → Int) × (Int → Int) × Int × Int × Int × Int) :=
  zb1 (f_X6_isWithin p1 1 4) fun r1 =>
  zck (zR r1) <|
  if r1 = 0 then
    some (1, sp_waiting, sp_planned, F_fd_crossings, F_fd_crossingCount, F_fd_drawn, F_pt_xs, F_pt_ys, F_pt_size, pl_kinds, pl_differencesX, pl_differencesY, pl_owners, pl_kindCounts, pl_threads, pl_size, pl_seconds, pl_needleX, pl_needleY, pl_colour, ma_stitchesAhead, ma_broken, ma_brokeAt, ma_stitches, ma_headCount, ma_late, ma_commandCount, ma_place)
  else
    zb1 (f_X6_isWithin p2 0 20) fun r7 =>
    zck (zR r7) <|
    if r7 = 0 then
      some (1, sp_waiting, sp_planned, F_fd_crossings, F_fd_crossingCount, F_fd_drawn, F_pt_xs, F_pt_ys, F_pt_size, pl_kinds, pl_differencesX, pl_differencesY, pl_owners, pl_kindCounts, pl_threads, pl_size, pl_seconds, pl_needleX, pl_needleY, pl_colour, ma_stitchesAhead, ma_broken, ma_brokeAt, ma_stitches, ma_headCount, ma_late, ma_commandCount, ma_place)
    else
      zb19 (f_X6_refresh sp_waiting sp_trimBound sp_planned F_fd_colour F_fd_layer F_fd_column F_fd_cornerXs F_fd_cornerYs F_fd_crossings F_fd_cornerCount F_fd_crossingCount F_fd_density F_fd_length F_fd_shift F_fd_pull F_fd_underlay F_fd_drawn F_pt_xs F_pt_ys F_pt_size pl_kinds pl_differencesX pl_differencesY pl_owners pl_kindCounts pl_threads pl_size pl_seconds pl_needleX pl_needleY pl_colour nF) fun a13 u14 u15 u16 u17 u18 u19 u20 a21 a22 a23 a24 a25 a26 u27 u28 u29 u30 u31 =>
      zb8 (f_X1_begin a21 a22 a23 a24 u27 ma_stitchesAhead ma_broken ma_brokeAt ma_stitches ma_headCount ma_late ma_commandCount ma_place p1 p2) fun a34 a35 a36 a37 u38 u39 u40 u41 =>
      some (0, a13, u14, u15, u16, u17, u18, u19, u20, a21, a22, a23, a24, a25, a26, u27, u28, u29, u30, u31, a34, a35, a36, a37, u38, u39, u40, u41)
def f_X6_run (ma_stitchesAhead : Int → Int) (ma_broken : Int → Int) (ma_brokeAt : Int → Int) (ma_stitches : Int → Int) (ma_headCount : Int) (ma_late : Int) (ma_commandCount : Int) (ma_place : Int) (p1 : Int) : Option (Int × Int × (Int → Int) × Int) :=
  zb1 (f_X6_isWithin p1 1 1000) fun r1 =>
  zck (zR r1) <|
  if r1 = 0 then
    some (1, 0, ma_stitches, ma_place)
  else
    zck (zR ma_headCount) <|
    if ma_headCount = 0 then
      some (2, 0, ma_stitches, ma_place)
    else
      zb3 (f_X1_advance ma_stitchesAhead ma_broken ma_brokeAt ma_stitches ma_headCount ma_late ma_commandCount ma_place p1) fun r9 a10 u11 =>
      some (0, r9, a10, u11)
def f_X6_breaks (ma_broken : Int → Int) (ma_brokeAt : Int → Int) (ma_headCount : Int) (ma_place : Int) (p1 : Int) : Option (Int × (Int → Int) × (Int → Int)) :=
  zb1 (f_X1_has ma_headCount p1) fun r1 =>
  zck (zR r1) <|
  if r1 = 0 then
    some (3, ma_broken, ma_brokeAt)
  else
    zck (0 ≤ p1 ∧ p1 < 4) <|
    zck (zR (ma_broken p1)) <|
    if (ma_broken p1) = 0 then
      zb2 (f_X1_tear ma_broken ma_brokeAt ma_headCount ma_place p1) fun a10 a11 =>
      some (0, a10, a11)
    else
      some (2, ma_broken, ma_brokeAt)
def f_X6_mend (ma_stitchesAhead : Int → Int) (ma_broken : Int → Int) (ma_brokeAt : Int → Int) (ma_stitches : Int → Int) (ma_headCount : Int) (ma_late : Int) (ma_commandCount : Int) (ma_place : Int) (p1 : Int) : Option (Int × Int × (Int → Int) × (Int → Int)) :=
  zb1 (f_X1_has ma_headCount p1) fun r1 =>
  zck (zR r1) <|
  if r1 = 0 then
    some (3, 0, ma_broken, ma_stitches)
  else
    zb1 (f_X1_isSeen ma_broken ma_brokeAt ma_headCount ma_late ma_commandCount ma_place p1) fun r7 =>
    zck (zR r7) <|
    if r7 = 0 then
      some (2, 0, ma_broken, ma_stitches)
    else
      zb3 (f_X1_repair ma_stitchesAhead ma_broken ma_brokeAt ma_stitches ma_headCount ma_place p1) fun r13 a14 a15 =>
      some (0, r13, a14, a15)
def f_X6_sewn (ma_stitches : Int → Int) (ma_headCount : Int) (p1 : Int) : Option (Int × Int) :=
  zb1 (f_X1_has ma_headCount p1) fun r1 =>
  zck (zR r1) <|
  if r1 = 0 then
    some (3, 0)
  else
    zck (0 ≤ p1 ∧ p1 < 4) <|
    some (0, (ma_stitches p1))
