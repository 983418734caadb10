def f_X6_isWithin (p0 : Int) (p1 : Int) (p2 : Int) : Option (Int) :=
  zck (zR p0 ∧ zR p1) <|
  if p0 < p1 then
    some 0
  else
    zck (zR p0 ∧ zR p2) <|
    if p2 < p0 then
      some 0
    else
      some 1
def f_X6_placeOf (p0 : Int) (p1 : Int) (p2 : Int) (p3 : Int) : Option (Int) :=
  zck (zR p3) <|
  if 0 < p3 then
    zb1 (f_J9_floorDiv_7cf53 ((p1 - p0) * p2) p3) fun r3 =>
    some (p0 + r3)
  else
    some p0
def f_X6_roundedUp (p0 : Int) (p1 : Int) : Option (Int) :=
  zck (zR p1) <|
  if 0 < p1 then
    zck ((zR ((p0 + p1) - 1) ∧ zR p1) ∧ p1 ≠ 0) <|
    some (Int.tdiv ((p0 + p1) - 1) p1)
  else
    some 0
def f_X6_greaterDifference (p0 : Int) (p1 : Int) : Option (Int) :=
  zck (zR p0) <|
  zck (zR p1) <|
  zck (zR (p0.natAbs : Int) ∧ zR (p1.natAbs : Int)) <|
  some (max (p0.natAbs : Int) (p1.natAbs : Int))
def f_X6_wholeRoot_L6 (x0 : Int) (x1 : Int) (x2 : Int) : Option ((Int × Int) ⊕ (Int × Int)) :=
  zck (zR x2) <|
  if x2 ≤ 0 then
    some (.inr (x1, x2))
  else
    zlt ((x1 + x2)) fun v3 =>
    zck (zR (v3 * v3) ∧ zR x0) <|
    if x0 < (v3 * v3) then
      zck (0 ≤ x2 ∧ zR x2) <|
      zlt ((x2 / 2)) fun v7 =>
      some (.inl (x1, v7))
    else
      zck (0 ≤ x2 ∧ zR x2) <|
      zlt ((x2 / 2)) fun v9 =>
      some (.inl (v3, v9))
def f_X6_wholeRoot (p0 : Int) : Option (Int) :=
  zb2 (zlp (fun z => f_X6_wholeRoot_L6 p0 z.1 z.2) zFU (0, 128)) fun w11 w12 =>
  some w11
def f_X0_isFull_17 (fd_column : Int) (fd_cornerCount : Int) (s0 : Int) (s1 : Int) : Option (Int) :=
  zck (zR s0 ∧ zR s1) <|
  if s0 < s1 then
    some 0
  else
    some 1
def f_X0_isFull (fd_column : Int) (fd_cornerCount : Int) : Option (Int) :=
  zck (zR fd_column) <|
  if fd_column = 0 then
    f_X0_isFull_17 fd_column fd_cornerCount fd_cornerCount 8
  else
    f_X0_isFull_17 fd_column fd_cornerCount fd_cornerCount 4
def f_X0_putCorner_44 (fd_cornerXs : Int → Int) (fd_cornerYs : Int → Int) (fd_cornerCount : Int) (fd_drawn : Int) : Option ((Int → Int) × (Int → Int) × Int × Int) :=
  some (fd_cornerXs, fd_cornerYs, fd_cornerCount, 0)
def f_X0_putCorner (fd_cornerXs : Int → Int) (fd_cornerYs : Int → Int) (fd_cornerCount : Int) (fd_drawn : Int) (p1 : Int) (p2 : Int) : Option ((Int → Int) × (Int → Int) × Int × Int) :=
  zck (zR fd_cornerCount) <|
  if 8 ≤ fd_cornerCount then
    f_X0_putCorner_44 fd_cornerXs fd_cornerYs fd_cornerCount fd_drawn
  else
    zck (zR fd_cornerCount) <|
    if 8 ≤ fd_cornerCount then
      f_X0_putCorner_44 fd_cornerXs fd_cornerYs fd_cornerCount fd_drawn
    else
      zck (0 ≤ fd_cornerCount ∧ fd_cornerCount < 8) <|
      zlt (zup fd_cornerXs fd_cornerCount p1) fun a8 =>
      zck (0 ≤ fd_cornerCount ∧ fd_cornerCount < 8) <|
      zlt (zup fd_cornerYs fd_cornerCount p2) fun a11 =>
      zlt ((fd_cornerCount + 1)) fun v12 =>
      f_X0_putCorner_44 a8 a11 v12 fd_drawn
def f_X0_settle (fd_density : Int) (fd_length : Int) (fd_shift : Int) (fd_pull : Int) (fd_underlay : Int) (fd_drawn : Int) (p1 : Int) (p2 : Int) (p3 : Int) (p4 : Int) (p5 : Int) : Option (Int × Int × Int × Int × Int × Int) :=
  zck (p5 = 0 ∨ p5 = 1) <|
  some (p1, p2, p3, p4, p5, 0)
def f_X0_canResize_L2 (fd_cornerXs : Int → Int) (fd_cornerYs : Int → Int) (fd_cornerCount : Int) (x1 : Int) (x2 : Int) : Option ((Int) ⊕ ((Int) ⊕ (Int))) :=
  zck (zR x2 ∧ zR fd_cornerCount) <|
  if fd_cornerCount ≤ x2 then
    some (.inr (.inl x2))
  else
    zck (zR x2) <|
    if 8 ≤ x2 then
      some (.inr (.inl x2))
    else
      zck (zR x2) <|
      if 8 ≤ x2 then
        some (.inr (.inl x2))
      else
        zck (0 ≤ x2 ∧ x2 < 8) <|
        zck (0 ≤ x2 ∧ x2 < 8) <|
        zck (zR (fd_cornerXs x2) ∧ zR (fd_cornerYs x2)) <|
        zlt ((max (fd_cornerXs x2) (fd_cornerYs x2))) fun v10 =>
        zck (zR (v10 * x1)) <|
        zck (zR (Int.tdiv (v10 * x1) 100)) <|
        if (Int.tdiv (v10 * x1) 100) < 32 then
          some (.inl (x2 + 1))
        else
          some (.inr (.inr 0))
def f_X0_canResize (fd_cornerXs : Int → Int) (fd_cornerYs : Int → Int) (fd_cornerCount : Int) (p1 : Int) : Option (Int) :=
  zbs (zlp (fun z => f_X0_canResize_L2 fd_cornerXs fd_cornerYs fd_cornerCount p1 z) zFU 0) (fun w15 =>
    some 1
  ) (fun b => some b)
def f_X0_resize_68 (fd_cornerXs : Int → Int) (fd_cornerYs : Int → Int) (fd_cornerCount : Int) (fd_drawn : Int) : Option ((Int → Int) × (Int → Int) × Int) :=
  some (fd_cornerXs, fd_cornerYs, 0)
def f_X0_resize_L2 (fd_cornerCount : Int) (fd_drawn : Int) (x1 : Int) (x2 : Int) (fd_cornerXs : Int → Int) (fd_cornerYs : Int → Int) : Option ((Int × (Int → Int) × (Int → Int)) ⊕ (Int × (Int → Int) × (Int → Int))) :=
  zck (zR x2 ∧ zR fd_cornerCount) <|
  if fd_cornerCount ≤ x2 then
    some (.inr (x2, fd_cornerXs, fd_cornerYs))
  else
    zck (zR x2) <|
    if 8 ≤ x2 then
      some (.inr (x2, fd_cornerXs, fd_cornerYs))
    else
      zck (zR x2) <|
      if 8 ≤ x2 then
        some (.inr (x2, fd_cornerXs, fd_cornerYs))
      else
        zck (0 ≤ x2 ∧ x2 < 8) <|
        zck (zR ((fd_cornerXs x2) * x1)) <|
        zck (0 ≤ x2 ∧ x2 < 8) <|
        zlt (zup fd_cornerXs x2 (Int.tdiv ((fd_cornerXs x2) * x1) 100)) fun a12 =>
        zck (0 ≤ x2 ∧ x2 < 8) <|
        zck (zR ((fd_cornerYs x2) * x1)) <|
        zck (0 ≤ x2 ∧ x2 < 8) <|
        zlt (zup fd_cornerYs x2 (Int.tdiv ((fd_cornerYs x2) * x1) 100)) fun a17 =>
        some (.inl ((x2 + 1), a12, a17))
def f_X0_resize (fd_cornerXs : Int → Int) (fd_cornerYs : Int → Int) (fd_cornerCount : Int) (fd_drawn : Int) (p1 : Int) : Option ((Int → Int) × (Int → Int) × Int) :=
  zb3 (zlp (fun z => f_X0_resize_L2 fd_cornerCount fd_drawn p1 z.1 z.2.1 z.2.2) zFU (0, fd_cornerXs, fd_cornerYs)) fun w19 w20 w21 =>
  f_X0_resize_68 w20 w21 fd_cornerCount fd_drawn
def f_X4_put (pt_xs : Int → Int) (pt_ys : Int → Int) (pt_size : Int) (p1 : Int) (p2 : Int) : Option ((Int → Int) × (Int → Int) × Int) :=
  zck (zR pt_size) <|
  if 2078 ≤ pt_size then
    some (pt_xs, pt_ys, pt_size)
  else
    zck (zR pt_size) <|
    if 2078 ≤ pt_size then
      some (pt_xs, pt_ys, pt_size)
    else
      zck (0 ≤ pt_size ∧ pt_size < 2078) <|
      zlt (zup pt_xs pt_size p1) fun a7 =>
      zck (0 ≤ pt_size ∧ pt_size < 2078) <|
      zlt (zup pt_ys pt_size p2) fun a10 =>
      zlt ((pt_size + 1)) fun v11 =>
      some (a7, a10, v11)
def f_X0_drawColumn_L105 (fd_cornerXs : Int → Int) (fd_cornerYs : Int → Int) (fd_cornerCount : Int) (fd_density : Int) (x5 : Int) (x6 : Int) (pt_xs : Int → Int) (pt_ys : Int → Int) (pt_size : Int) : Option ((Int × (Int → Int) × (Int → Int) × Int) ⊕ (Int × (Int → Int) × (Int → Int) × Int)) :=
  zck (zR x6 ∧ zR x5) <|
  if x5 < x6 then
    some (.inr (x6, pt_xs, pt_ys, pt_size))
  else
    zb1 (f_X6_placeOf (fd_cornerXs 0) (fd_cornerXs 1) x6 x5) fun r3 =>
    zb1 (f_X6_placeOf (fd_cornerYs 0) (fd_cornerYs 1) x6 x5) fun r7 =>
    zb3 (f_X4_put pt_xs pt_ys pt_size r3 r7) fun a11 a12 u13 =>
    zb1 (f_X6_placeOf (fd_cornerXs 3) (fd_cornerXs 2) x6 x5) fun r16 =>
    zb1 (f_X6_placeOf (fd_cornerYs 3) (fd_cornerYs 2) x6 x5) fun r20 =>
    zb3 (f_X4_put a11 a12 u13 r16 r20) fun a24 a25 u26 =>
    some (.inl ((x6 + 1), a24, a25, u26))
def f_X0_drawColumn (fd_cornerXs : Int → Int) (fd_cornerYs : Int → Int) (fd_cornerCount : Int) (fd_density : Int) (pt_xs : Int → Int) (pt_ys : Int → Int) (pt_size : Int) : Option ((Int → Int) × (Int → Int) × Int) :=
  zck (zR fd_cornerCount) <|
  if fd_cornerCount < 4 then
    some (pt_xs, pt_ys, pt_size)
  else
    zck (zR fd_cornerCount) <|
    if 8 < fd_cornerCount then
      some (pt_xs, pt_ys, pt_size)
    else
      zck (zR fd_cornerCount) <|
      if 8 < fd_cornerCount then
        some (pt_xs, pt_ys, pt_size)
      else
        zck (zR fd_density) <|
        if 0 < fd_density then
          zb1 (f_X6_greaterDifference ((fd_cornerXs 1) - (fd_cornerXs 0)) ((fd_cornerYs 1) - (fd_cornerYs 0))) fun r37 =>
          zb1 (f_X6_greaterDifference ((fd_cornerXs 2) - (fd_cornerXs 3)) ((fd_cornerYs 2) - (fd_cornerYs 3))) fun r41 =>
          zck (zR r37 ∧ zR r41) <|
          zck ((zR (max r37 r41) ∧ zR fd_density) ∧ fd_density ≠ 0) <|
          zlt (((Int.tdiv (max r37 r41) fd_density) + 1)) fun v47 =>
          zb4 (zlp (fun z => f_X0_drawColumn_L105 fd_cornerXs fd_cornerYs fd_cornerCount fd_density v47 z.1 z.2.1 z.2.2.1 z.2.2.2) zFU (0, pt_xs, pt_ys, pt_size)) fun w49 w50 w51 w52 =>
          some (w50, w51, w52)
        else
          some (pt_xs, pt_ys, pt_size)
def f_X0_cornerBehind (fd_cornerCount : Int) (p1 : Int) : Option (Int) :=
  zck (zR (p1 + 1) ∧ zR fd_cornerCount) <|
  if fd_cornerCount ≤ (p1 + 1) then
    some 0
  else
    some (p1 + 1)
def f_X0_drawEdge_L22 (fd_length : Int) (x1 : Int) (x2 : Int) (x3 : Int) (x4 : Int) (x5 : Int) (x6 : Int) (pt_xs : Int → Int) (pt_ys : Int → Int) (pt_size : Int) : Option ((Int × (Int → Int) × (Int → Int) × Int) ⊕ (Int × (Int → Int) × (Int → Int) × Int)) :=
  zck (zR x6 ∧ zR x5) <|
  if x5 < x6 then
    some (.inr (x6, pt_xs, pt_ys, pt_size))
  else
    zb1 (f_X6_placeOf x1 x3 x6 x5) fun r3 =>
    zb1 (f_X6_placeOf x2 x4 x6 x5) fun r7 =>
    zb3 (f_X4_put pt_xs pt_ys pt_size r3 r7) fun a11 a12 u13 =>
    some (.inl ((x6 + 1), a11, a12, u13))
def f_X0_drawEdge (fd_length : Int) (pt_xs : Int → Int) (pt_ys : Int → Int) (pt_size : Int) (p1 : Int) (p2 : Int) (p3 : Int) (p4 : Int) : Option ((Int → Int) × (Int → Int) × Int) :=
  zb1 (f_X6_greaterDifference (p3 - p1) (p4 - p2)) fun r16 =>
  zb1 (f_X6_roundedUp r16 fd_length) fun r20 =>
  zb4 (zlp (fun z => f_X0_drawEdge_L22 fd_length p1 p2 p3 p4 r20 z.1 z.2.1 z.2.2.1 z.2.2.2) zFU (1, pt_xs, pt_ys, pt_size)) fun w25 w26 w27 w28 =>
  some (w26, w27, w28)
def f_X0_drawUnderlay_L21 (fd_cornerXs : Int → Int) (fd_cornerYs : Int → Int) (fd_cornerCount : Int) (fd_length : Int) (x1 : Int) (pt_xs : Int → Int) (pt_ys : Int → Int) (pt_size : Int) : Option ((Int × (Int → Int) × (Int → Int) × Int) ⊕ (Int × (Int → Int) × (Int → Int) × Int)) :=
  zck (zR x1 ∧ zR fd_cornerCount) <|
  if fd_cornerCount ≤ x1 then
    some (.inr (x1, pt_xs, pt_ys, pt_size))
  else
    zck (zR x1) <|
    if 8 ≤ x1 then
      some (.inr (x1, pt_xs, pt_ys, pt_size))
    else
      zck (zR x1) <|
      if 8 ≤ x1 then
        some (.inr (x1, pt_xs, pt_ys, pt_size))
      else
        zb1 (f_X0_cornerBehind fd_cornerCount x1) fun r7 =>
        zck (zR r7) <|
        if 8 ≤ r7 then
          some (.inl ((x1 + 1), pt_xs, pt_ys, pt_size))
        else
          zck (zR r7) <|
          if 8 ≤ r7 then
            some (.inl ((x1 + 1), pt_xs, pt_ys, pt_size))
          else
            zck (0 ≤ x1 ∧ x1 < 8) <|
            zck (0 ≤ x1 ∧ x1 < 8) <|
            zck (0 ≤ r7 ∧ r7 < 8) <|
            zck (0 ≤ r7 ∧ r7 < 8) <|
            zb3 (f_X0_drawEdge fd_length pt_xs pt_ys pt_size (fd_cornerXs x1) (fd_cornerYs x1) (fd_cornerXs r7) (fd_cornerYs r7)) fun a19 a20 u21 =>
            some (.inl ((x1 + 1), a19, a20, u21))
def f_X0_drawUnderlay (fd_cornerXs : Int → Int) (fd_cornerYs : Int → Int) (fd_cornerCount : Int) (fd_length : Int) (pt_xs : Int → Int) (pt_ys : Int → Int) (pt_size : Int) : Option ((Int → Int) × (Int → Int) × Int) :=
  zb3 (f_X4_put pt_xs pt_ys pt_size (fd_cornerXs 0) (fd_cornerYs 0)) fun a24 a25 u26 =>
  zb4 (zlp (fun z => f_X0_drawUnderlay_L21 fd_cornerXs fd_cornerYs fd_cornerCount fd_length z.1 z.2.1 z.2.2.1 z.2.2.2) zFU (0, a24, a25, u26)) fun w30 w31 w32 w33 =>
  some (w31, w32, w33)
def f_X0_leastY_L5 (fd_cornerYs : Int → Int) (fd_cornerCount : Int) (x1 : Int) (x2 : Int) : Option ((Int × Int) ⊕ (Int × Int)) :=
  zck (zR x2 ∧ zR fd_cornerCount) <|
  if fd_cornerCount ≤ x2 then
    some (.inr (x1, x2))
  else
    zck (zR x2) <|
    if 8 ≤ x2 then
      some (.inr (x1, x2))
    else
      zck (0 ≤ x2 ∧ x2 < 8) <|
      zck (zR x1 ∧ zR (fd_cornerYs x2)) <|
      zlt ((min x1 (fd_cornerYs x2))) fun v7 =>
      some (.inl (v7, (x2 + 1)))
def f_X0_leastY (fd_cornerYs : Int → Int) (fd_cornerCount : Int) : Option (Int) :=
  zb2 (zlp (fun z => f_X0_leastY_L5 fd_cornerYs fd_cornerCount z.1 z.2) zFU (32, 0)) fun w9 w10 =>
  some w9
def f_X0_greatestY_L4 (fd_cornerYs : Int → Int) (fd_cornerCount : Int) (x1 : Int) (x2 : Int) : Option ((Int × Int) ⊕ (Int × Int)) :=
  zck (zR x2 ∧ zR fd_cornerCount) <|
  if fd_cornerCount ≤ x2 then
    some (.inr (x1, x2))
  else
    zck (zR x2) <|
    if 8 ≤ x2 then
      some (.inr (x1, x2))
    else
      zck (0 ≤ x2 ∧ x2 < 8) <|
      zck (zR x1 ∧ zR (fd_cornerYs x2)) <|
      zlt ((max x1 (fd_cornerYs x2))) fun v7 =>
      some (.inl (v7, (x2 + 1)))
def f_X0_greatestY (fd_cornerYs : Int → Int) (fd_cornerCount : Int) : Option (Int) :=
  zb2 (zlp (fun z => f_X0_greatestY_L4 fd_cornerYs fd_cornerCount z.1 z.2) zFU (0, 0)) fun w9 w10 =>
  some w9
def f_X0_putCrossing_51 (fd_crossings : Int → Int) (fd_crossingCount : Int) (x1 : Int) (x2 : Int) : Option ((Int → Int) × Int) :=
  zck (0 ≤ x2 ∧ x2 < 8) <|
  zlt (zup fd_crossings x2 x1) fun a3 =>
  zlt ((fd_crossingCount + 1)) fun v4 =>
  some (a3, v4)
def f_X0_putCrossing_L15 (fd_crossingCount : Int) (x1 : Int) (x2 : Int) (fd_crossings : Int → Int) : Option ((Int × (Int → Int)) ⊕ (Int × (Int → Int))) :=
  zck (zR x2) <|
  if x2 ≤ 0 then
    some (.inr (x2, fd_crossings))
  else
    zck (0 ≤ (x2 - 1) ∧ (x2 - 1) < 8) <|
    zck (zR (fd_crossings (x2 - 1)) ∧ zR x1) <|
    if (fd_crossings (x2 - 1)) ≤ x1 then
      some (.inr (x2, fd_crossings))
    else
      zck (0 ≤ (x2 - 1) ∧ (x2 - 1) < 8) <|
      zck (0 ≤ x2 ∧ x2 < 8) <|
      zlt (zup fd_crossings x2 (fd_crossings (x2 - 1))) fun a14 =>
      some (.inl ((x2 + (-1)), a14))
def f_X0_putCrossing (fd_crossings : Int → Int) (fd_crossingCount : Int) (p1 : Int) : Option ((Int → Int) × Int) :=
  zck (zR fd_crossingCount) <|
  if fd_crossingCount < 8 then
    zb2 (zlp (fun z => f_X0_putCrossing_L15 fd_crossingCount p1 z.1 z.2) zFU (fd_crossingCount, fd_crossings)) fun w18 w19 =>
    f_X0_putCrossing_51 w19 fd_crossingCount p1 w18
  else
    some (fd_crossings, fd_crossingCount)
def f_X0_cross_L7 (fd_cornerXs : Int → Int) (fd_cornerYs : Int → Int) (fd_cornerCount : Int) (x1 : Int) (x2 : Int) (fd_crossings : Int → Int) (fd_crossingCount : Int) : Option ((Int × (Int → Int) × Int) ⊕ ((Int × (Int → Int) × Int) ⊕ ((Int → Int) × Int))) :=
  zck (zR x2 ∧ zR fd_cornerCount) <|
  if fd_cornerCount ≤ x2 then
    some (.inr (.inl (x2, fd_crossings, fd_crossingCount)))
  else
    zck (zR x2) <|
    if 8 ≤ x2 then
      some (.inr (.inl (x2, fd_crossings, fd_crossingCount)))
    else
      zck (zR x2) <|
      if 8 ≤ x2 then
        some (.inr (.inl (x2, fd_crossings, fd_crossingCount)))
      else
        zb1 (f_X0_cornerBehind fd_cornerCount x2) fun r7 =>
        zck (zR r7) <|
        if 8 ≤ r7 then
          some (.inr (.inr (fd_crossings, fd_crossingCount)))
        else
          zck (zR r7) <|
          if r7 < 8 then
            zck (0 ≤ x2 ∧ x2 < 8) <|
            zlt ((fd_cornerYs x2)) fun v16 =>
            zck (0 ≤ r7 ∧ r7 < 8) <|
            zlt ((fd_cornerYs r7)) fun v18 =>
            zck (zR v16 ∧ zR v18) <|
            if v16 = v18 then
              some (.inl ((x2 + 1), fd_crossings, fd_crossingCount))
            else
              zck (zR v16 ∧ zR v18) <|
              zck (zR (min v16 v18) ∧ zR x1) <|
              if x1 < (min v16 v18) then
                some (.inl ((x2 + 1), fd_crossings, fd_crossingCount))
              else
                zck (zR v16 ∧ zR v18) <|
                zck (zR x1 ∧ zR (max v16 v18)) <|
                if (max v16 v18) ≤ x1 then
                  some (.inl ((x2 + 1), fd_crossings, fd_crossingCount))
                else
                  zck (0 ≤ r7 ∧ r7 < 8) <|
                  zck (0 ≤ x2 ∧ x2 < 8) <|
                  zlt (((x1 - v16) * ((fd_cornerXs r7) - (fd_cornerXs x2)))) fun v29 =>
                  zck (0 ≤ x2 ∧ x2 < 8) <|
                  zb1 (f_J9_floorDiv_7cf53 v29 (v18 - v16)) fun r31 =>
                  zb2 (f_X0_putCrossing fd_crossings fd_crossingCount ((fd_cornerXs x2) + r31)) fun a35 u36 =>
                  some (.inl ((x2 + 1), a35, u36))
          else
            some (.inr (.inr (fd_crossings, fd_crossingCount)))
def f_X0_cross (fd_cornerXs : Int → Int) (fd_cornerYs : Int → Int) (fd_crossings : Int → Int) (fd_cornerCount : Int) (fd_crossingCount : Int) (p1 : Int) : Option ((Int → Int) × Int) :=
  zbs (zlp (fun z => f_X0_cross_L7 fd_cornerXs fd_cornerYs fd_cornerCount p1 z.1 z.2.1 z.2.2) zFU (0, fd_crossings, 0)) (fun (w41, w42, w43) =>
    some (w42, w43)
  ) (fun b => some b)
def f_X0_drawSpan_177 (fd_crossings : Int → Int) (fd_length : Int) (fd_shift : Int) (fd_pull : Int) (pt_xs : Int → Int) (pt_ys : Int → Int) (pt_size : Int) (x3 : Int) (s1 : Int) : Option ((Int → Int) × (Int → Int) × Int) :=
  zb3 (f_X4_put pt_xs pt_ys pt_size s1 x3) fun a1 a2 u3 =>
  some (a1, a2, u3)
def f_X0_drawSpan_L92 (fd_crossings : Int → Int) (fd_length : Int) (fd_shift : Int) (fd_pull : Int) (x2 : Int) (x3 : Int) (x4 : Int) (x6 : Int) (x7 : Int) (x8 : Int) (x9 : Int) (x10 : Int) (pt_xs : Int → Int) (pt_ys : Int → Int) (pt_size : Int) : Option ((Int × (Int → Int) × (Int → Int) × Int) ⊕ (Int × (Int → Int) × (Int → Int) × Int)) :=
  zck (zR x10 ∧ zR (x7 - x6)) <|
  if (x7 - x6) ≤ x10 then
    some (.inr (x10, pt_xs, pt_ys, pt_size))
  else
    zlt ((x8 + (x9 * x10))) fun v8 =>
    zck (zR fd_length) <|
    if fd_length ≤ 0 then
      some (.inl ((x10 + 1), pt_xs, pt_ys, pt_size))
    else
      zb1 (f_J9_floorMod_7cf53 (v8 - (x2 * fd_shift)) fd_length) fun r11 =>
      zck (zR r11) <|
      if r11 = 0 then
        zb3 (f_X4_put pt_xs pt_ys pt_size v8 x3) fun a17 a18 u19 =>
        some (.inl ((x10 + 1), a17, a18, u19))
      else
        some (.inl ((x10 + 1), pt_xs, pt_ys, pt_size))
def f_X0_drawSpan_77 (fd_crossings : Int → Int) (fd_length : Int) (fd_shift : Int) (fd_pull : Int) (pt_xs : Int → Int) (pt_ys : Int → Int) (pt_size : Int) (x2 : Int) (x3 : Int) (x4 : Int) (x6 : Int) (x7 : Int) (x8 : Int) (s0 : Int) : Option ((Int → Int) × (Int → Int) × Int) :=
  zb3 (f_X4_put pt_xs pt_ys pt_size x8 x3) fun a22 a23 u24 =>
  zb4 (zlp (fun z => f_X0_drawSpan_L92 fd_crossings fd_length fd_shift fd_pull x2 x3 x4 x6 x7 x8 s0 z.1 z.2.1 z.2.2.1 z.2.2.2) zFU (1, a22, a23, u24)) fun w28 w29 w30 w31 =>
  zck (zR x6 ∧ zR x7) <|
  if x6 = x7 then
    some (w29, w30, w31)
  else
    zck (zR x4) <|
    if x4 = 0 then
      f_X0_drawSpan_177 fd_crossings fd_length fd_shift fd_pull w29 w30 w31 x3 x7
    else
      f_X0_drawSpan_177 fd_crossings fd_length fd_shift fd_pull w29 w30 w31 x3 x6
def f_X0_drawSpan_65 (fd_crossings : Int → Int) (fd_length : Int) (fd_shift : Int) (fd_pull : Int) (pt_xs : Int → Int) (pt_ys : Int → Int) (pt_size : Int) (x2 : Int) (x3 : Int) (x4 : Int) (x6 : Int) (x7 : Int) (s0 : Int) : Option ((Int → Int) × (Int → Int) × Int) :=
  zck (zR x4) <|
  if x4 = 0 then
    f_X0_drawSpan_77 fd_crossings fd_length fd_shift fd_pull pt_xs pt_ys pt_size x2 x3 x4 x6 x7 s0 1
  else
    f_X0_drawSpan_77 fd_crossings fd_length fd_shift fd_pull pt_xs pt_ys pt_size x2 x3 x4 x6 x7 s0 (-1)
def f_X0_drawSpan (fd_crossings : Int → Int) (fd_length : Int) (fd_shift : Int) (fd_pull : Int) (pt_xs : Int → Int) (pt_ys : Int → Int) (pt_size : Int) (p1 : Int) (p2 : Int) (p3 : Int) (p4 : Int) : Option ((Int → Int) × (Int → Int) × Int) :=
  zlt ((2 * p1)) fun v39 =>
  zck (zR v39) <|
  if v39 < 0 then
    some (pt_xs, pt_ys, pt_size)
  else
    zck (zR (v39 + 1)) <|
    if (v39 + 1) < 8 then
      zck (0 ≤ v39 ∧ v39 < 8) <|
      zlt (((fd_crossings v39) - fd_pull)) fun v45 =>
      zck (0 ≤ (v39 + 1) ∧ (v39 + 1) < 8) <|
      zlt (((fd_crossings (v39 + 1)) + fd_pull)) fun v47 =>
      zck (zR p4) <|
      if p4 = 0 then
        f_X0_drawSpan_65 fd_crossings fd_length fd_shift fd_pull pt_xs pt_ys pt_size p2 p3 p4 v45 v47 v45
      else
        f_X0_drawSpan_65 fd_crossings fd_length fd_shift fd_pull pt_xs pt_ys pt_size p2 p3 p4 v45 v47 v47
    else
      some (pt_xs, pt_ys, pt_size)
def f_X0_drawRows_L67_92 (fd_cornerXs : Int → Int) (fd_cornerYs : Int → Int) (fd_crossings : Int → Int) (fd_cornerCount : Int) (fd_crossingCount : Int) (fd_density : Int) (fd_length : Int) (fd_shift : Int) (fd_pull : Int) (pt_xs : Int → Int) (pt_ys : Int → Int) (pt_size : Int) (x1 : Int) (x2 : Int) (x3 : Int) (x4 : Int) (x5 : Int) (x6 : Int) (x7 : Int) (s1 : Int) : Option ((Int × (Int → Int) × (Int → Int) × Int) ⊕ (Int × (Int → Int) × (Int → Int) × Int)) :=
  zb3 (f_X0_drawSpan fd_crossings fd_length fd_shift fd_pull pt_xs pt_ys pt_size s1 x3 x4 x6) fun a1 a2 u3 =>
  some (.inl ((x7 + 1), a1, a2, u3))
def f_X0_drawRows_L67 (fd_cornerXs : Int → Int) (fd_cornerYs : Int → Int) (fd_crossings : Int → Int) (fd_cornerCount : Int) (fd_crossingCount : Int) (fd_density : Int) (fd_length : Int) (fd_shift : Int) (fd_pull : Int) (x1 : Int) (x2 : Int) (x3 : Int) (x4 : Int) (x5 : Int) (x6 : Int) (x7 : Int) (pt_xs : Int → Int) (pt_ys : Int → Int) (pt_size : Int) : Option ((Int × (Int → Int) × (Int → Int) × Int) ⊕ (Int × (Int → Int) × (Int → Int) × Int)) :=
  zck (zR x7 ∧ zR x5) <|
  if x5 ≤ x7 then
    some (.inr (x7, pt_xs, pt_ys, pt_size))
  else
    zck (zR x6) <|
    if x6 = 0 then
      f_X0_drawRows_L67_92 fd_cornerXs fd_cornerYs fd_crossings fd_cornerCount fd_crossingCount fd_density fd_length fd_shift fd_pull pt_xs pt_ys pt_size x1 x2 x3 x4 x5 x6 x7 x7
    else
      f_X0_drawRows_L67_92 fd_cornerXs fd_cornerYs fd_crossings fd_cornerCount fd_crossingCount fd_density fd_length fd_shift fd_pull pt_xs pt_ys pt_size x1 x2 x3 x4 x5 x6 x7 ((x5 - 1) - x7)
def f_X0_drawRows_L21_62 (fd_cornerXs : Int → Int) (fd_cornerYs : Int → Int) (fd_crossings : Int → Int) (fd_cornerCount : Int) (fd_crossingCount : Int) (fd_density : Int) (fd_length : Int) (fd_shift : Int) (fd_pull : Int) (pt_xs : Int → Int) (pt_ys : Int → Int) (pt_size : Int) (x1 : Int) (x2 : Int) (x3 : Int) (x4 : Int) (x5 : Int) (s0 : Int) : Option ((Int × (Int → Int) × Int × (Int → Int) × (Int → Int) × Int) ⊕ (Int × (Int → Int) × Int × (Int → Int) × (Int → Int) × Int)) :=
  zb4 (zlp (fun z => f_X0_drawRows_L67 fd_cornerXs fd_cornerYs fd_crossings fd_cornerCount fd_crossingCount fd_density fd_length fd_shift fd_pull x1 x2 x3 x4 x5 s0 z.1 z.2.1 z.2.2.1 z.2.2.2) zFU (0, pt_xs, pt_ys, pt_size)) fun w11 w12 w13 w14 =>
  some (.inl ((x3 + 1), fd_crossings, fd_crossingCount, w12, w13, w14))
def f_X0_drawRows_L21 (fd_cornerXs : Int → Int) (fd_cornerYs : Int → Int) (fd_cornerCount : Int) (fd_density : Int) (fd_length : Int) (fd_shift : Int) (fd_pull : Int) (x1 : Int) (x2 : Int) (x3 : Int) (fd_crossings : Int → Int) (fd_crossingCount : Int) (pt_xs : Int → Int) (pt_ys : Int → Int) (pt_size : Int) : Option ((Int × (Int → Int) × Int × (Int → Int) × (Int → Int) × Int) ⊕ (Int × (Int → Int) × Int × (Int → Int) × (Int → Int) × Int)) :=
  zck (zR x3 ∧ zR x2) <|
  if x2 ≤ x3 then
    some (.inr (x3, fd_crossings, fd_crossingCount, pt_xs, pt_ys, pt_size))
  else
    zlt ((x1 + (x3 * fd_density))) fun v18 =>
    zb2 (f_X0_cross fd_cornerXs fd_cornerYs fd_crossings fd_cornerCount fd_crossingCount v18) fun a19 u20 =>
    zck (zR u20) <|
    zlt ((Int.tdiv u20 2)) fun v24 =>
    zck (zR x3) <|
    zck (zR (Int.tmod x3 2)) <|
    if (Int.tmod x3 2) = 1 then
      f_X0_drawRows_L21_62 fd_cornerXs fd_cornerYs a19 fd_cornerCount u20 fd_density fd_length fd_shift fd_pull pt_xs pt_ys pt_size x1 x2 x3 v18 v24 1
    else
      f_X0_drawRows_L21_62 fd_cornerXs fd_cornerYs a19 fd_cornerCount u20 fd_density fd_length fd_shift fd_pull pt_xs pt_ys pt_size x1 x2 x3 v18 v24 0
def f_X0_drawRows (fd_cornerXs : Int → Int) (fd_cornerYs : Int → Int) (fd_crossings : Int → Int) (fd_cornerCount : Int) (fd_crossingCount : Int) (fd_density : Int) (fd_length : Int) (fd_shift : Int) (fd_pull : Int) (pt_xs : Int → Int) (pt_ys : Int → Int) (pt_size : Int) : Option ((Int → Int) × Int × (Int → Int) × (Int → Int) × Int) :=
  zb1 (f_X0_leastY fd_cornerYs fd_cornerCount) fun r28 =>
  zb1 (f_X0_greatestY fd_cornerYs fd_cornerCount) fun r32 =>
  zb1 (f_X6_roundedUp (r32 - r28) fd_density) fun r36 =>
  zb6 (zlp (fun z => f_X0_drawRows_L21 fd_cornerXs fd_cornerYs fd_cornerCount fd_density fd_length fd_shift fd_pull r28 r36 z.1 z.2.1 z.2.2.1 z.2.2.2.1 z.2.2.2.2.1 z.2.2.2.2.2) zFU (0, fd_crossings, fd_crossingCount, pt_xs, pt_ys, pt_size)) fun w41 w42 w43 w44 w45 w46 =>
  some (w42, w43, w44, w45, w46)
def f_X0_spans_L2 (fd_crossings : Int → Int) (fd_crossingCount : Int) (x1 : Int) (x2 : Int) : Option ((Int) ⊕ ((Int) ⊕ (Int))) :=
  zck (zR (x2 + 1) ∧ zR fd_crossingCount) <|
  if fd_crossingCount ≤ (x2 + 1) then
    some (.inr (.inl x2))
  else
    zck (zR (x2 + 1)) <|
    if 8 ≤ (x2 + 1) then
      some (.inr (.inl x2))
    else
      zck (0 ≤ x2 ∧ x2 < 8) <|
      zck (zR (fd_crossings x2) ∧ zR x1) <|
      if x1 < (fd_crossings x2) then
        some (.inl (x2 + 2))
      else
        zck (0 ≤ (x2 + 1) ∧ (x2 + 1) < 8) <|
        zck (zR x1 ∧ zR (fd_crossings (x2 + 1))) <|
        if (fd_crossings (x2 + 1)) < x1 then
          some (.inl (x2 + 2))
        else
          some (.inr (.inr 1))
def f_X0_spans (fd_crossings : Int → Int) (fd_crossingCount : Int) (p1 : Int) : Option (Int) :=
  zbs (zlp (fun z => f_X0_spans_L2 fd_crossings fd_crossingCount p1 z) zFU 0) (fun w12 =>
    some 0
  ) (fun b => some b)
def f_X1_has (ma_headCount : Int) (p1 : Int) : Option (Int) :=
  zck (zR p1) <|
  if p1 < 0 then
    some 0
  else
    zck (zR p1 ∧ zR ma_headCount) <|
    if ma_headCount ≤ p1 then
      some 0
    else
      zck (zR p1) <|
      if 4 ≤ p1 then
        some 0
      else
        zck (zR p1) <|
        if 4 ≤ p1 then
          some 0
        else
          zck (zR p1) <|
          if 4 ≤ p1 then
            some 0
          else
            some 1
def f_X3_told (pl_kinds : Int → Int) (pl_differencesX : Int → Int) (pl_differencesY : Int → Int) (pl_owners : Int → Int) (p1 : Int) (p2 : Int) : Option (Int) :=
  zck (zR p1) <|
  if p1 < 0 then
    some (-1)
  else
    zck (zR p1) <|
    if 16641 ≤ p1 then
      some (-1)
    else
      zck (zR p1) <|
      if 16641 ≤ p1 then
        some (-1)
      else
        zck (zR p1) <|
        if 16641 ≤ p1 then
          some (-1)
        else
          zck (zR p1) <|
          if p1 < 16641 then
            zck (zR p2) <|
            if p2 = 0 then
              zck (0 ≤ p1 ∧ p1 < 16641) <|
              some (pl_kinds p1)
            else
              if p2 = 1 then
                zck (0 ≤ p1 ∧ p1 < 16641) <|
                some (pl_differencesX p1)
              else
                if p2 = 2 then
                  zck (0 ≤ p1 ∧ p1 < 16641) <|
                  some (pl_differencesY p1)
                else
                  zck (0 ≤ p1 ∧ p1 < 16641) <|
                  some (pl_owners p1)
          else
            some (-1)
def f_X1_begin_L97 (pl_kinds : Int → Int) (pl_differencesX : Int → Int) (pl_differencesY : Int → Int) (pl_owners : Int → Int) (pl_size : Int) (ma_stitchesAhead : Int → Int) (ma_headCount : Int) (ma_late : Int) (ma_commandCount : Int) (ma_place : Int) (x4 : Int) (ma_broken : Int → Int) (ma_brokeAt : Int → Int) (ma_stitches : Int → Int) : Option ((Int × (Int → Int) × (Int → Int) × (Int → Int)) ⊕ (Int × (Int → Int) × (Int → Int) × (Int → Int))) :=
  zck (zR x4) <|
  if 4 ≤ x4 then
    some (.inr (x4, ma_broken, ma_brokeAt, ma_stitches))
  else
    zck (0 ≤ x4 ∧ x4 < 4) <|
    zlt (zup ma_broken x4 0) fun a5 =>
    zck (0 ≤ x4 ∧ x4 < 4) <|
    zlt (zup ma_brokeAt x4 0) fun a8 =>
    zck (0 ≤ x4 ∧ x4 < 4) <|
    zlt (zup ma_stitches x4 0) fun a11 =>
    some (.inl ((x4 + 1), a5, a8, a11))
def f_X1_begin_94 (pl_kinds : Int → Int) (pl_differencesX : Int → Int) (pl_differencesY : Int → Int) (pl_owners : Int → Int) (pl_size : Int) (ma_stitchesAhead : Int → Int) (ma_broken : Int → Int) (ma_brokeAt : Int → Int) (ma_stitches : Int → Int) (ma_headCount : Int) (ma_late : Int) (ma_commandCount : Int) (ma_place : Int) : Option ((Int → Int) × (Int → Int) × (Int → Int) × (Int → Int) × Int × Int × Int × Int) :=
  zb4 (zlp (fun z => f_X1_begin_L97 pl_kinds pl_differencesX pl_differencesY pl_owners pl_size ma_stitchesAhead ma_headCount ma_late ma_commandCount ma_place z.1 z.2.1 z.2.2.1 z.2.2.2) zFU (0, ma_broken, ma_brokeAt, ma_stitches)) fun w13 w14 w15 w16 =>
  some (ma_stitchesAhead, w14, w15, w16, ma_headCount, ma_late, ma_commandCount, ma_place)
def f_X1_begin_L23_59 (pl_kinds : Int → Int) (pl_differencesX : Int → Int) (pl_differencesY : Int → Int) (pl_owners : Int → Int) (pl_size : Int) (ma_stitchesAhead : Int → Int) (ma_broken : Int → Int) (ma_brokeAt : Int → Int) (ma_stitches : Int → Int) (ma_headCount : Int) (ma_late : Int) (ma_commandCount : Int) (ma_place : Int) (x4 : Int) (s0 : Int) : Option ((Int × (Int → Int) × Int) ⊕ (Int × (Int → Int) × Int)) :=
  zck (0 ≤ x4 ∧ x4 < 16642) <|
  zck (0 ≤ (x4 + 1) ∧ (x4 + 1) < 16642) <|
  zlt (zup ma_stitchesAhead (x4 + 1) ((ma_stitchesAhead x4) + s0)) fun a21 =>
  zlt ((x4 + 1)) fun v22 =>
  some (.inl ((x4 + 1), a21, v22))
def f_X1_begin_L23 (pl_kinds : Int → Int) (pl_differencesX : Int → Int) (pl_differencesY : Int → Int) (pl_owners : Int → Int) (pl_size : Int) (ma_broken : Int → Int) (ma_brokeAt : Int → Int) (ma_stitches : Int → Int) (ma_headCount : Int) (ma_late : Int) (ma_place : Int) (x4 : Int) (ma_stitchesAhead : Int → Int) (ma_commandCount : Int) : Option ((Int × (Int → Int) × Int) ⊕ (Int × (Int → Int) × Int)) :=
  zck (zR x4 ∧ zR pl_size) <|
  if pl_size ≤ x4 then
    some (.inr (x4, ma_stitchesAhead, ma_commandCount))
  else
    zck (zR (x4 + 1)) <|
    if 16642 ≤ (x4 + 1) then
      some (.inr (x4, ma_stitchesAhead, ma_commandCount))
    else
      zb1 (f_X3_told pl_kinds pl_differencesX pl_differencesY pl_owners x4 0) fun r28 =>
      zck (zR r28) <|
      if r28 = 0 then
        f_X1_begin_L23_59 pl_kinds pl_differencesX pl_differencesY pl_owners pl_size ma_stitchesAhead ma_broken ma_brokeAt ma_stitches ma_headCount ma_late ma_commandCount ma_place x4 1
      else
        f_X1_begin_L23_59 pl_kinds pl_differencesX pl_differencesY pl_owners pl_size ma_stitchesAhead ma_broken ma_brokeAt ma_stitches ma_headCount ma_late ma_commandCount ma_place x4 0
def f_X1_begin (pl_kinds : Int → Int) (pl_differencesX : Int → Int) (pl_differencesY : Int → Int) (pl_owners : Int → Int) (pl_size : Int) (ma_stitchesAhead : Int → Int) (ma_broken : Int → Int) (ma_brokeAt : Int → Int) (ma_stitches : Int → Int) (ma_headCount : Int) (ma_late : Int) (ma_commandCount : Int) (ma_place : Int) (p2 : Int) (p3 : Int) : Option ((Int → Int) × (Int → Int) × (Int → Int) × (Int → Int) × Int × Int × Int × Int) :=
  zb3 (zlp (fun z => f_X1_begin_L23 pl_kinds pl_differencesX pl_differencesY pl_owners pl_size ma_broken ma_brokeAt ma_stitches p2 p3 0 z.1 z.2.1 z.2.2) zFU (0, ma_stitchesAhead, 0)) fun w39 w40 w41 =>
  f_X1_begin_94 pl_kinds pl_differencesX pl_differencesY pl_owners pl_size w40 ma_broken ma_brokeAt ma_stitches p2 p3 w41 0
def f_X1_stitchesBetween (ma_stitchesAhead : Int → Int) (p1 : Int) (p2 : Int) : Option (Int) :=
  zck (zR p1) <|
  if p1 < 0 then
    some 0
  else
    zck (zR p2 ∧ zR p1) <|
    if p2 < p1 then
      some 0
    else
      zck (zR p2) <|
      if p2 < 16642 then
        zck (0 ≤ p2 ∧ p2 < 16642) <|
        zck (0 ≤ p1 ∧ p1 < 16642) <|
        some ((ma_stitchesAhead p2) - (ma_stitchesAhead p1))
      else
        some 0
def f_X1_isSeen_46 (ma_broken : Int → Int) (ma_brokeAt : Int → Int) (ma_headCount : Int) (ma_late : Int) (ma_commandCount : Int) (ma_place : Int) : Option (Int) :=
  some 1
def f_X1_isSeen (ma_broken : Int → Int) (ma_brokeAt : Int → Int) (ma_headCount : Int) (ma_late : Int) (ma_commandCount : Int) (ma_place : Int) (p1 : Int) : Option (Int) :=
  zb1 (f_X1_has ma_headCount p1) fun r1 =>
  zck (zR r1) <|
  if r1 = 0 then
    some 0
  else
    zck (0 ≤ p1 ∧ p1 < 4) <|
    zck (zR (ma_broken p1)) <|
    if (ma_broken p1) = 0 then
      some 0
    else
      zck (0 ≤ p1 ∧ p1 < 4) <|
      zck (zR (ma_place - (ma_brokeAt p1)) ∧ zR ma_late) <|
      if ma_late ≤ (ma_place - (ma_brokeAt p1)) then
        f_X1_isSeen_46 ma_broken ma_brokeAt ma_headCount ma_late ma_commandCount ma_place
      else
        zck (zR ma_place ∧ zR ma_commandCount) <|
        if ma_place < ma_commandCount then
          some 0
        else
          f_X1_isSeen_46 ma_broken ma_brokeAt ma_headCount ma_late ma_commandCount ma_place
def f_X1_stands_L2 (ma_broken : Int → Int) (ma_brokeAt : Int → Int) (ma_headCount : Int) (ma_late : Int) (ma_commandCount : Int) (ma_place : Int) (x1 : Int) : Option ((Int) ⊕ ((Int) ⊕ (Int))) :=
  zck (zR x1 ∧ zR ma_headCount) <|
  if ma_headCount ≤ x1 then
    some (.inr (.inl x1))
  else
    zb1 (f_X1_isSeen ma_broken ma_brokeAt ma_headCount ma_late ma_commandCount ma_place x1) fun r3 =>
    zck (zR r3) <|
    if r3 = 0 then
      some (.inl (x1 + 1))
    else
      some (.inr (.inr 1))
def f_X1_stands (ma_broken : Int → Int) (ma_brokeAt : Int → Int) (ma_headCount : Int) (ma_late : Int) (ma_commandCount : Int) (ma_place : Int) : Option (Int) :=
  zbs (zlp (fun z => f_X1_stands_L2 ma_broken ma_brokeAt ma_headCount ma_late ma_commandCount ma_place z) zFU 0) (fun w10 =>
    some 0
  ) (fun b => some b)
def f_X1_step_68 (ma_stitchesAhead : Int → Int) (ma_broken : Int → Int) (ma_stitches : Int → Int) (ma_headCount : Int) (ma_place : Int) : Option ((Int → Int) × Int) :=
  zlt ((ma_place + 1)) fun v1 =>
  some (ma_stitches, v1)
def f_X1_step_L17 (ma_stitchesAhead : Int → Int) (ma_broken : Int → Int) (ma_headCount : Int) (ma_place : Int) (x1 : Int) (x2 : Int) (ma_stitches : Int → Int) : Option ((Int × (Int → Int)) ⊕ (Int × (Int → Int))) :=
  zck (zR x2 ∧ zR ma_headCount) <|
  if ma_headCount ≤ x2 then
    some (.inr (x2, ma_stitches))
  else
    zck (zR x2) <|
    if 4 ≤ x2 then
      some (.inr (x2, ma_stitches))
    else
      zck (zR x2) <|
      if 4 ≤ x2 then
        some (.inr (x2, ma_stitches))
      else
        zck (0 ≤ x2 ∧ x2 < 4) <|
        zck (zR (ma_broken x2)) <|
        if (ma_broken x2) = 0 then
          zck (0 ≤ x2 ∧ x2 < 4) <|
          zck (0 ≤ x2 ∧ x2 < 4) <|
          zlt (zup ma_stitches x2 ((ma_stitches x2) + x1)) fun a15 =>
          some (.inl ((x2 + 1), a15))
        else
          some (.inl ((x2 + 1), ma_stitches))
def f_X1_step (ma_stitchesAhead : Int → Int) (ma_broken : Int → Int) (ma_stitches : Int → Int) (ma_headCount : Int) (ma_place : Int) : Option ((Int → Int) × Int) :=
  zb1 (f_X1_stitchesBetween ma_stitchesAhead ma_place (ma_place + 1)) fun r16 =>
  zb2 (zlp (fun z => f_X1_step_L17 ma_stitchesAhead ma_broken ma_headCount ma_place r16 z.1 z.2) zFU (0, ma_stitches)) fun w21 w22 =>
  f_X1_step_68 ma_stitchesAhead ma_broken w22 ma_headCount ma_place
def f_X1_advance_L2 (ma_stitchesAhead : Int → Int) (ma_broken : Int → Int) (ma_brokeAt : Int → Int) (ma_headCount : Int) (ma_late : Int) (ma_commandCount : Int) (x1 : Int) (x2 : Int) (ma_stitches : Int → Int) (ma_place : Int) : Option ((Int × (Int → Int) × Int) ⊕ (Int × (Int → Int) × Int)) :=
  zck (zR x2 ∧ zR x1) <|
  if x1 ≤ x2 then
    some (.inr (x2, ma_stitches, ma_place))
  else
    zck (zR ma_place ∧ zR ma_commandCount) <|
    if ma_commandCount ≤ ma_place then
      some (.inr (x2, ma_stitches, ma_place))
    else
      zb1 (f_X1_stands ma_broken ma_brokeAt ma_headCount ma_late ma_commandCount ma_place) fun r5 =>
      zck (zR r5) <|
      if r5 = 0 then
        zb2 (f_X1_step ma_stitchesAhead ma_broken ma_stitches ma_headCount ma_place) fun a11 u12 =>
        some (.inl ((x2 + 1), a11, u12))
      else
        some (.inr (x2, ma_stitches, ma_place))
def f_X1_advance (ma_stitchesAhead : Int → Int) (ma_broken : Int → Int) (ma_brokeAt : Int → Int) (ma_stitches : Int → Int) (ma_headCount : Int) (ma_late : Int) (ma_commandCount : Int) (ma_place : Int) (p1 : Int) : Option (Int × (Int → Int) × Int) :=
  zb3 (zlp (fun z => f_X1_advance_L2 ma_stitchesAhead ma_broken ma_brokeAt ma_headCount ma_late ma_commandCount p1 z.1 z.2.1 z.2.2) zFU (0, ma_stitches, ma_place)) fun w16 w17 w18 =>
  some (w16, w17, w18)
def f_X1_tear (ma_broken : Int → Int) (ma_brokeAt : Int → Int) (ma_headCount : Int) (ma_place : Int) (p1 : Int) : Option ((Int → Int) × (Int → Int)) :=
  zb1 (f_X1_has ma_headCount p1) fun r1 =>
  zck (zR r1) <|
  if r1 = 0 then
    some (ma_broken, ma_brokeAt)
  else
    zck (0 ≤ p1 ∧ p1 < 4) <|
    zlt (zup ma_broken p1 1) fun a9 =>
    zck (0 ≤ p1 ∧ p1 < 4) <|
    zlt (zup ma_brokeAt p1 ma_place) fun a12 =>
    some (a9, a12)
def f_X1_repair (ma_stitchesAhead : Int → Int) (ma_broken : Int → Int) (ma_brokeAt : Int → Int) (ma_stitches : Int → Int) (ma_headCount : Int) (ma_place : Int) (p1 : Int) : Option (Int × (Int → Int) × (Int → Int)) :=
  zb1 (f_X1_has ma_headCount p1) fun r1 =>
  zck (zR r1) <|
  if r1 = 0 then
    some (0, ma_broken, ma_stitches)
  else
    zck (0 ≤ p1 ∧ p1 < 4) <|
    zck (zR ((ma_brokeAt p1) - 3)) <|
    zb1 (f_X1_stitchesBetween ma_stitchesAhead (max 0 ((ma_brokeAt p1) - 3)) ma_place) fun r9 =>
    zck (0 ≤ p1 ∧ p1 < 4) <|
    zlt (zup ma_broken p1 0) fun a15 =>
    zck (0 ≤ p1 ∧ p1 < 4) <|
    zck (0 ≤ p1 ∧ p1 < 4) <|
    zlt (zup ma_stitches p1 ((ma_stitches p1) + r9)) fun a19 =>
    some (r9, a15, a19)
def f_X2_has (pa_size : Int) (p1 : Int) : Option (Int) :=
  zck (zR p1) <|
  if p1 < 0 then
    some 0
  else
    zck (zR p1 ∧ zR pa_size) <|
    if pa_size ≤ p1 then
      some 0
    else
      zck (zR p1) <|
      if 49924 ≤ p1 then
        some 0
      else
        some 1
def f_X2_limit (pa_format : Int) : Option (Int) :=
  zck (zR pa_format) <|
  if pa_format = 0 then
    some 12
  else
    some 121
def f_X2_bytesOfCommand (pa_format : Int) : Option (Int) :=
  zck (zR pa_format) <|
  if pa_format = 0 then
    some 2
  else
    some 3
def f_X2_putByte (pa_bytes : Int → Int) (pa_size : Int) (p1 : Int) : Option ((Int → Int) × Int) :=
  zck (zR pa_size) <|
  if 49924 ≤ pa_size then
    some (pa_bytes, pa_size)
  else
    zck (0 ≤ pa_size ∧ pa_size < 49924) <|
    zlt (zup pa_bytes pa_size p1) fun a5 =>
    zlt ((pa_size + 1)) fun v6 =>
    some (a5, v6)
def f_X2_putCommand (pa_bytes : Int → Int) (pa_size : Int) (pa_format : Int) (p1 : Int) (p2 : Int) (p3 : Int) : Option ((Int → Int) × Int) :=
  zck (zR pa_format) <|
  if pa_format = 0 then
    zb2 (f_X2_putByte pa_bytes pa_size (((32 * p1) + p2) + 16)) fun a15 u16 =>
    zb2 (f_X2_putByte a15 u16 (p3 + 16)) fun a19 u20 =>
    some (a19, u20)
  else
    zb2 (f_X2_putByte pa_bytes pa_size p1) fun a3 u4 =>
    zb2 (f_X2_putByte a3 u4 (p2 + 128)) fun a7 u8 =>
    zb2 (f_X2_putByte a7 u8 (p3 + 128)) fun a11 u12 =>
    some (a11, u12)
def f_X2_putWhole_L36 (pa_format : Int) (x2 : Int) (x3 : Int) (x4 : Int) (x5 : Int) (x6 : Int) (x7 : Int) (pa_bytes : Int → Int) (pa_size : Int) : Option ((Int × Int × Int × (Int → Int) × Int) ⊕ (Int × Int × Int × (Int → Int) × Int)) :=
  zck (zR x7 ∧ zR x4) <|
  if x4 < x7 then
    some (.inr (x5, x6, x7, pa_bytes, pa_size))
  else
    zb1 (f_X6_placeOf 0 x2 x7 x4) fun r3 =>
    zb1 (f_X6_placeOf 0 x3 x7 x4) fun r7 =>
    zb2 (f_X2_putCommand pa_bytes pa_size pa_format 1 (r3 - x5) (r7 - x6)) fun a11 u12 =>
    some (.inl (r3, r7, (x7 + 1), a11, u12))
def f_X2_putWhole (pa_bytes : Int → Int) (pa_size : Int) (pa_format : Int) (p1 : Int) (p2 : Int) (p3 : Int) : Option ((Int → Int) × Int) :=
  zck (zR p1) <|
  if p1 = 1 then
    zb1 (f_X6_greaterDifference p2 p3) fun r17 =>
    zb1 (f_X2_limit pa_format) fun r21 =>
    zb1 (f_X6_roundedUp r17 r21) fun r25 =>
    zb5 (zlp (fun z => f_X2_putWhole_L36 pa_format p2 p3 r25 z.1 z.2.1 z.2.2.1 z.2.2.2.1 z.2.2.2.2) zFU (0, 0, 1, pa_bytes, pa_size)) fun w30 w31 w32 w33 w34 =>
    some (w33, w34)
  else
    zb2 (f_X2_putCommand pa_bytes pa_size pa_format p1 p2 p3) fun a36 u37 =>
    some (a36, u37)
def f_X2_sumAhead_L4 (pa_bytes : Int → Int) (x1 : Int) (x2 : Int) (x3 : Int) : Option ((Int × Int) ⊕ (Int × Int)) :=
  zck (zR x3 ∧ zR x1) <|
  if x1 ≤ x3 then
    some (.inr (x2, x3))
  else
    zck (zR x3) <|
    if 49924 ≤ x3 then
      some (.inr (x2, x3))
    else
      zck (0 ≤ x3 ∧ x3 < 49924) <|
      zlt ((x2 + (pa_bytes x3))) fun v6 =>
      some (.inl (v6, (x3 + 1)))
def f_X2_sumAhead (pa_bytes : Int → Int) (p1 : Int) : Option (Int) :=
  zb2 (zlp (fun z => f_X2_sumAhead_L4 pa_bytes p1 z.1 z.2) zFU (0, 0)) fun w8 w9 =>
  zck (zR w8) <|
  some (Int.tmod w8 256)
def f_X2_take_L12 (pl_kinds : Int → Int) (pl_differencesX : Int → Int) (pl_differencesY : Int → Int) (pl_owners : Int → Int) (pl_size : Int) (pa_format : Int) (x3 : Int) (pa_bytes : Int → Int) (pa_size : Int) : Option ((Int × (Int → Int) × Int) ⊕ (Int × (Int → Int) × Int)) :=
  zck (zR x3 ∧ zR pl_size) <|
  if pl_size ≤ x3 then
    some (.inr (x3, pa_bytes, pa_size))
  else
    zb1 (f_X3_told pl_kinds pl_differencesX pl_differencesY pl_owners x3 0) fun r3 =>
    zb1 (f_X3_told pl_kinds pl_differencesX pl_differencesY pl_owners x3 1) fun r7 =>
    zb1 (f_X3_told pl_kinds pl_differencesX pl_differencesY pl_owners x3 2) fun r11 =>
    zb2 (f_X2_putWhole pa_bytes pa_size pa_format r3 r7 r11) fun a15 u16 =>
    some (.inl ((x3 + 1), a15, u16))
def f_X2_take (pl_kinds : Int → Int) (pl_differencesX : Int → Int) (pl_differencesY : Int → Int) (pl_owners : Int → Int) (pl_size : Int) (pa_bytes : Int → Int) (pa_size : Int) (pa_format : Int) (p2 : Int) : Option ((Int → Int) × Int × Int) :=
  zb3 (zlp (fun z => f_X2_take_L12 pl_kinds pl_differencesX pl_differencesY pl_owners pl_size p2 z.1 z.2.1 z.2.2) zFU (0, pa_bytes, 0)) fun w22 w23 w24 =>
  zb1 (f_X2_sumAhead w23 w24) fun r26 =>
  zb2 (f_X2_putByte w23 w24 r26) fun a30 u31 =>
  some (a30, u31, p2)
def f_X2_kindAt (pa_bytes : Int → Int) (pa_size : Int) (pa_format : Int) (p1 : Int) : Option (Int) :=
  zb1 (f_X2_has pa_size p1) fun r1 =>
  zck (zR r1) <|
  if r1 = 0 then
    some 4
  else
    zck (zR pa_format) <|
    if pa_format = 0 then
      zck (0 ≤ p1 ∧ p1 < 49924) <|
      zck (zR (pa_bytes p1)) <|
      some (Int.tdiv (pa_bytes p1) 32)
    else
      zck (0 ≤ p1 ∧ p1 < 49924) <|
      some (pa_bytes p1)
def f_X2_differenceAt (pa_bytes : Int → Int) (pa_size : Int) (pa_format : Int) (p1 : Int) (p2 : Int) : Option (Int) :=
  zb1 (f_X2_has pa_size p1) fun r1 =>
  zck (zR r1) <|
  if r1 = 0 then
    some 0
  else
    zck (zR pa_format) <|
    if pa_format = 0 then
      zck (zR p2) <|
      if p2 = 0 then
        zck (0 ≤ p1 ∧ p1 < 49924) <|
        zck (zR (pa_bytes p1)) <|
        some ((Int.tmod (pa_bytes p1) 32) - 16)
      else
        zck (0 ≤ p1 ∧ p1 < 49924) <|
        some ((pa_bytes p1) - 16)
    else
      zck (zR p2) <|
      if p2 = 0 then
        some 0
      else
        zck (0 ≤ p1 ∧ p1 < 49924) <|
        some ((pa_bytes p1) - 128)
def f_X2_wrongWithin_L8 (pa_bytes : Int → Int) (pa_size : Int) (pa_format : Int) (x1 : Int) (x2 : Int) (x3 : Int) : Option ((Int) ⊕ ((Int) ⊕ (Int))) :=
  zb1 (f_X2_bytesOfCommand pa_format) fun r1 =>
  zck (zR x3 ∧ zR r1) <|
  if r1 ≤ x3 then
    some (.inr (.inl x3))
  else
    zlt ((x1 + x3)) fun v7 =>
    zb1 (f_X2_has pa_size v7) fun r8 =>
    zck (zR r8) <|
    if r8 = 0 then
      some (.inr (.inr pa_size))
    else
      zb1 (f_X2_differenceAt pa_bytes pa_size pa_format v7 x3) fun r14 =>
      zck (zR r14) <|
      zlt ((r14.natAbs : Int)) fun v19 =>
      zck (zR x2) <|
      if 4 < x2 then
        some (.inr (.inr v7))
      else
        zb1 (f_X2_limit pa_format) fun r22 =>
        zck (zR v19 ∧ zR r22) <|
        if r22 < v19 then
          some (.inr (.inr v7))
        else
          zck (zR x2) <|
          if x2 < 2 then
            some (.inl (x3 + 1))
          else
            zck (zR v19) <|
            if v19 = 0 then
              some (.inl (x3 + 1))
            else
              some (.inr (.inr v7))
def f_X2_wrongWithin (pa_bytes : Int → Int) (pa_size : Int) (pa_format : Int) (p1 : Int) : Option (Int) :=
  zb1 (f_X2_kindAt pa_bytes pa_size pa_format p1) fun r32 =>
  zbs (zlp (fun z => f_X2_wrongWithin_L8 pa_bytes pa_size pa_format p1 r32 z) zFU 0) (fun w37 =>
    some (-1)
  ) (fun b => some b)
def f_X2_wrongBehindEnd (pa_bytes : Int → Int) (pa_size : Int) (p1 : Int) : Option (Int) :=
  zb1 (f_X2_has pa_size p1) fun r1 =>
  zck (zR r1) <|
  if r1 = 0 then
    some pa_size
  else
    zck (0 ≤ p1 ∧ p1 < 49924) <|
    zb1 (f_X2_sumAhead pa_bytes p1) fun r8 =>
    zck (zR (pa_bytes p1) ∧ zR r8) <|
    if (pa_bytes p1) = r8 then
      zck (zR (p1 + 1) ∧ zR pa_size) <|
      if pa_size ≤ (p1 + 1) then
        some (-1)
      else
        some (p1 + 1)
    else
      some p1
def f_X2_inspect_L20 (pa_bytes : Int → Int) (pa_size : Int) (pa_format : Int) (x1 : Int) (x2 : Int) (pa_faultPlace : Int) (pa_stitchesRead : Int) : Option ((Int × Int × Int) ⊕ ((Int × Int × Int) ⊕ (Int × Int))) :=
  zck (zR x2 ∧ zR pa_size) <|
  if pa_size ≤ x2 then
    some (.inr (.inl (x2, pa_faultPlace, pa_stitchesRead)))
  else
    zlt ((x2 * x1)) fun v3 =>
    zb1 (f_X2_wrongWithin pa_bytes pa_size pa_format v3) fun r4 =>
    zck (zR r4) <|
    if r4 = (-1) then
      zb1 (f_X2_kindAt pa_bytes pa_size pa_format v3) fun r10 =>
      zck (zR r10) <|
      if r10 = 0 then
        zlt ((pa_stitchesRead + 1)) fun v23 =>
        some (.inl ((x2 + 1), pa_faultPlace, v23))
      else
        zck (zR r10) <|
        if r10 = 4 then
          zb1 (f_X2_wrongBehindEnd pa_bytes pa_size (v3 + x1)) fun r18 =>
          some (.inr (.inr (r18, pa_stitchesRead)))
        else
          some (.inl ((x2 + 1), pa_faultPlace, pa_stitchesRead))
    else
      some (.inr (.inr (r4, pa_stitchesRead)))
def f_X2_inspect (pa_bytes : Int → Int) (pa_size : Int) (pa_format : Int) (pa_faultPlace : Int) (pa_stitchesRead : Int) : Option (Int × Int) :=
  zb1 (f_X2_bytesOfCommand pa_format) fun r26 =>
  zbs (zlp (fun z => f_X2_inspect_L20 pa_bytes pa_size pa_format r26 z.1 z.2.1 z.2.2) zFU (0, pa_size, 0)) (fun (w33, w34, w35) =>
    some (w34, w35)
  ) (fun b => some b)
def f_X3_begin_L51 (pl_kindCounts : Int → Int) (pl_size : Int) (pl_seconds : UInt32) (pl_needleX : Int) (pl_needleY : Int) (pl_colour : Int) (x1 : Int) (pl_threads : Int → Int) : Option ((Int × (Int → Int)) ⊕ (Int × (Int → Int))) :=
  zck (zR x1) <|
  if 6 ≤ x1 then
    some (.inr (x1, pl_threads))
  else
    zck (0 ≤ x1 ∧ x1 < 6) <|
    zlt (zup pl_threads x1 0) fun a5 =>
    some (.inl ((x1 + 1), a5))
def f_X3_begin_L27 (pl_threads : Int → Int) (pl_size : Int) (pl_seconds : UInt32) (pl_needleX : Int) (pl_needleY : Int) (pl_colour : Int) (x1 : Int) (pl_kindCounts : Int → Int) : Option ((Int × (Int → Int)) ⊕ (Int × (Int → Int))) :=
  zck (zR x1) <|
  if 5 ≤ x1 then
    some (.inr (x1, pl_kindCounts))
  else
    zck (0 ≤ x1 ∧ x1 < 5) <|
    zlt (zup pl_kindCounts x1 0) fun a10 =>
    some (.inl ((x1 + 1), a10))
def f_X3_begin (pl_kindCounts : Int → Int) (pl_threads : Int → Int) (pl_size : Int) (pl_seconds : UInt32) (pl_needleX : Int) (pl_needleY : Int) (pl_colour : Int) : Option ((Int → Int) × (Int → Int) × Int × UInt32 × Int × Int × Int) :=
  zb2 (zlp (fun z => f_X3_begin_L27 pl_threads 0 0 0 0 (-1) z.1 z.2) zFU (0, pl_kindCounts)) fun w17 w18 =>
  zb2 (zlp (fun z => f_X3_begin_L51 w18 0 0 0 0 (-1) z.1 z.2) zFU (0, pl_threads)) fun w21 w22 =>
  some (w18, w22, 0, 0, 0, 0, (-1))
def f_X4_firstX (pt_xs : Int → Int) (pt_size : Int) : Option (Int) :=
  zck (zR pt_size) <|
  if pt_size ≤ 0 then
    some 0
  else
    some (pt_xs 0)
def f_X4_firstY (pt_ys : Int → Int) (pt_size : Int) : Option (Int) :=
  zck (zR pt_size) <|
  if pt_size ≤ 0 then
    some 0
  else
    some (pt_ys 0)
def f_X3_squareToFirst (pt_xs : Int → Int) (pt_ys : Int → Int) (pt_size : Int) (pl_needleX : Int) (pl_needleY : Int) : Option (Int) :=
  zb1 (f_X4_firstX pt_xs pt_size) fun r1 =>
  zlt ((r1 - pl_needleX)) fun v5 =>
  zb1 (f_X4_firstY pt_ys pt_size) fun r6 =>
  zlt ((r6 - pl_needleY)) fun v10 =>
  some ((v5 * v5) + (v10 * v10))
def f_X3_secondsOf (p0 : Int) (p1 : Int) : Option (UInt32) :=
  zck (zR p0) <|
  if p0 = 0 then
    zck (zR p1) <|
    if 4 < p1 then
      some 1036831949
    else
      some 1033476506
  else
    if p0 = 1 then
      some 1045220557
    else
      if p0 = 2 then
        some 1086324736
      else
        if p0 = 3 then
          some 1090519040
        else
          some 0
def f_X3_put (pl_kinds : Int → Int) (pl_differencesX : Int → Int) (pl_differencesY : Int → Int) (pl_owners : Int → Int) (pl_kindCounts : Int → Int) (pl_threads : Int → Int) (pl_size : Int) (pl_seconds : UInt32) (pl_colour : Int) (p1 : Int) (p2 : Int) (p3 : Int) (p4 : Int) : Option ((Int → Int) × (Int → Int) × (Int → Int) × (Int → Int) × (Int → Int) × (Int → Int) × Int × UInt32) :=
  zck (zR pl_size) <|
  if 16641 ≤ pl_size then
    some (pl_kinds, pl_differencesX, pl_differencesY, pl_owners, pl_kindCounts, pl_threads, pl_size, pl_seconds)
  else
    zck (zR pl_size) <|
    if 16641 ≤ pl_size then
      some (pl_kinds, pl_differencesX, pl_differencesY, pl_owners, pl_kindCounts, pl_threads, pl_size, pl_seconds)
    else
      zck (zR pl_size) <|
      if 16641 ≤ pl_size then
        some (pl_kinds, pl_differencesX, pl_differencesY, pl_owners, pl_kindCounts, pl_threads, pl_size, pl_seconds)
      else
        zck (zR pl_size) <|
        if 16641 ≤ pl_size then
          some (pl_kinds, pl_differencesX, pl_differencesY, pl_owners, pl_kindCounts, pl_threads, pl_size, pl_seconds)
        else
          zck (zR p1) <|
          if p1 < 0 then
            some (pl_kinds, pl_differencesX, pl_differencesY, pl_owners, pl_kindCounts, pl_threads, pl_size, pl_seconds)
          else
            zck (zR p1) <|
            if p1 < 5 then
              zck (0 ≤ pl_size ∧ pl_size < 16641) <|
              zlt (zup pl_kinds pl_size p1) fun a15 =>
              zck (0 ≤ pl_size ∧ pl_size < 16641) <|
              zlt (zup pl_differencesX pl_size p2) fun a18 =>
              zck (0 ≤ pl_size ∧ pl_size < 16641) <|
              zlt (zup pl_differencesY pl_size p3) fun a21 =>
              zck (0 ≤ pl_size ∧ pl_size < 16641) <|
              zlt (zup pl_owners pl_size p4) fun a24 =>
              zlt ((pl_size + 1)) fun v25 =>
              zck (0 ≤ p1 ∧ p1 < 5) <|
              zck (0 ≤ p1 ∧ p1 < 5) <|
              zlt (zup pl_kindCounts p1 ((pl_kindCounts p1) + 1)) fun a30 =>
              zb1 (f_X6_greaterDifference p2 p3) fun r31 =>
              zb1 (f_X3_secondsOf p1 r31) fun r35 =>
              zck (zn32 (FP.fadd pl_seconds r35)) <|
              zlt ((FP.fadd pl_seconds r35)) fun v40 =>
              zck (zR p1) <|
              if p1 = 0 then
                zck (zR pl_colour) <|
                if pl_colour < 0 then
                  some (a15, a18, a21, a24, a30, pl_threads, v25, v40)
                else
                  zck (zR pl_colour) <|
                  if 6 ≤ pl_colour then
                    some (a15, a18, a21, a24, a30, pl_threads, v25, v40)
                  else
                    zlt (((p2 * p2) + (p3 * p3))) fun v48 =>
                    zck (0 ≤ pl_colour ∧ pl_colour < 6) <|
                    zb1 (f_X6_wholeRoot (100 * v48)) fun r50 =>
                    zck (0 ≤ pl_colour ∧ pl_colour < 6) <|
                    zlt (zup pl_threads pl_colour ((pl_threads pl_colour) + r50)) fun a56 =>
                    some (a15, a18, a21, a24, a30, a56, v25, v40)
              else
                some (a15, a18, a21, a24, a30, pl_threads, v25, v40)
            else
              some (pl_kinds, pl_differencesX, pl_differencesY, pl_owners, pl_kindCounts, pl_threads, pl_size, pl_seconds)
def f_X3_goTo_60 (pl_kinds : Int → Int) (pl_differencesX : Int → Int) (pl_differencesY : Int → Int) (pl_owners : Int → Int) (pl_kindCounts : Int → Int) (pl_threads : Int → Int) (pl_size : Int) (pl_seconds : UInt32) (pl_needleX : Int) (pl_needleY : Int) (pl_colour : Int) (x1 : Int) (x2 : Int) : Option ((Int → Int) × (Int → Int) × (Int → Int) × (Int → Int) × (Int → Int) × (Int → Int) × Int × UInt32 × Int × Int) :=
  some (pl_kinds, pl_differencesX, pl_differencesY, pl_owners, pl_kindCounts, pl_threads, pl_size, pl_seconds, x1, x2)
def f_X3_goTo_47 (pl_kinds : Int → Int) (pl_differencesX : Int → Int) (pl_differencesY : Int → Int) (pl_owners : Int → Int) (pl_kindCounts : Int → Int) (pl_threads : Int → Int) (pl_size : Int) (pl_seconds : UInt32) (pl_needleX : Int) (pl_needleY : Int) (pl_colour : Int) (x1 : Int) (x2 : Int) (x3 : Int) (x5 : Int) (x6 : Int) (s0 : Int) : Option ((Int → Int) × (Int → Int) × (Int → Int) × (Int → Int) × (Int → Int) × (Int → Int) × Int × UInt32 × Int × Int) :=
  zb8 (f_X3_put pl_kinds pl_differencesX pl_differencesY pl_owners pl_kindCounts pl_threads pl_size pl_seconds pl_colour s0 x5 x6 x3) fun a3 a4 a5 a6 a7 a8 u9 u10 =>
  f_X3_goTo_60 a3 a4 a5 a6 a7 a8 u9 u10 pl_needleX pl_needleY pl_colour x1 x2
def f_X3_goTo_46 (pl_kinds : Int → Int) (pl_differencesX : Int → Int) (pl_differencesY : Int → Int) (pl_owners : Int → Int) (pl_kindCounts : Int → Int) (pl_threads : Int → Int) (pl_size : Int) (pl_seconds : UInt32) (pl_needleX : Int) (pl_needleY : Int) (pl_colour : Int) (x1 : Int) (x2 : Int) (x3 : Int) (x5 : Int) (x6 : Int) : Option ((Int → Int) × (Int → Int) × (Int → Int) × (Int → Int) × (Int → Int) × (Int → Int) × Int × UInt32 × Int × Int) :=
  f_X3_goTo_47 pl_kinds pl_differencesX pl_differencesY pl_owners pl_kindCounts pl_threads pl_size pl_seconds pl_needleX pl_needleY pl_colour x1 x2 x3 x5 x6 1
def f_X3_goTo (pl_kinds : Int → Int) (pl_differencesX : Int → Int) (pl_differencesY : Int → Int) (pl_owners : Int → Int) (pl_kindCounts : Int → Int) (pl_threads : Int → Int) (pl_size : Int) (pl_seconds : UInt32) (pl_needleX : Int) (pl_needleY : Int) (pl_colour : Int) (p1 : Int) (p2 : Int) (p3 : Int) (p4 : Int) : Option ((Int → Int) × (Int → Int) × (Int → Int) × (Int → Int) × (Int → Int) × (Int → Int) × Int × UInt32 × Int × Int) :=
  zlt ((p1 - pl_needleX)) fun v13 =>
  zlt ((p2 - pl_needleY)) fun v14 =>
  zb1 (f_X6_greaterDifference v13 v14) fun r15 =>
  zck (zR r15) <|
  if r15 = 0 then
    f_X3_goTo_60 pl_kinds pl_differencesX pl_differencesY pl_owners pl_kindCounts pl_threads pl_size pl_seconds pl_needleX pl_needleY pl_colour p1 p2
  else
    zck (zR p4) <|
    if p4 = 0 then
      f_X3_goTo_46 pl_kinds pl_differencesX pl_differencesY pl_owners pl_kindCounts pl_threads pl_size pl_seconds pl_needleX pl_needleY pl_colour p1 p2 p3 v13 v14
    else
      zck (zR r15) <|
      if 12 < r15 then
        f_X3_goTo_46 pl_kinds pl_differencesX pl_differencesY pl_owners pl_kindCounts pl_threads pl_size pl_seconds pl_needleX pl_needleY pl_colour p1 p2 p3 v13 v14
      else
        f_X3_goTo_47 pl_kinds pl_differencesX pl_differencesY pl_owners pl_kindCounts pl_threads pl_size pl_seconds pl_needleX pl_needleY pl_colour p1 p2 p3 v13 v14 0
def f_X3_sewField_L80 (fd_colour : Int) (pt_xs : Int → Int) (pt_ys : Int → Int) (pt_size : Int) (pl_colour : Int) (x2 : Int) (x5 : Int) (pl_kinds : Int → Int) (pl_differencesX : Int → Int) (pl_differencesY : Int → Int) (pl_owners : Int → Int) (pl_kindCounts : Int → Int) (pl_threads : Int → Int) (pl_size : Int) (pl_seconds : UInt32) (pl_needleX : Int) (pl_needleY : Int) : Option ((Int × (Int → Int) × (Int → Int) × (Int → Int) × (Int → Int) × (Int → Int) × (Int → Int) × Int × UInt32 × Int × Int) ⊕ (Int × (Int → Int) × (Int → Int) × (Int → Int) × (Int → Int) × (Int → Int) × (Int → Int) × Int × UInt32 × Int × Int)) :=
  zck (zR x5 ∧ zR pt_size) <|
  if pt_size ≤ x5 then
    some (.inr (x5, pl_kinds, pl_differencesX, pl_differencesY, pl_owners, pl_kindCounts, pl_threads, pl_size, pl_seconds, pl_needleX, pl_needleY))
  else
    zck (zR x5) <|
    if 2078 ≤ x5 then
      some (.inr (x5, pl_kinds, pl_differencesX, pl_differencesY, pl_owners, pl_kindCounts, pl_threads, pl_size, pl_seconds, pl_needleX, pl_needleY))
    else
      zck (zR x5) <|
      if 2078 ≤ x5 then
        some (.inr (x5, pl_kinds, pl_differencesX, pl_differencesY, pl_owners, pl_kindCounts, pl_threads, pl_size, pl_seconds, pl_needleX, pl_needleY))
      else
        zck (0 ≤ x5 ∧ x5 < 2078) <|
        zck (0 ≤ x5 ∧ x5 < 2078) <|
        zb10 (f_X3_goTo pl_kinds pl_differencesX pl_differencesY pl_owners pl_kindCounts pl_threads pl_size pl_seconds pl_needleX pl_needleY pl_colour (pt_xs x5) (pt_ys x5) x2 1) fun a9 a10 a11 a12 a13 a14 u15 u16 u17 u18 =>
        some (.inl ((x5 + 1), a9, a10, a11, a12, a13, a14, u15, u16, u17, u18))
def f_X3_sewField_61 (fd_colour : Int) (pt_xs : Int → Int) (pt_ys : Int → Int) (pt_size : Int) (pl_kinds : Int → Int) (pl_differencesX : Int → Int) (pl_differencesY : Int → Int) (pl_owners : Int → Int) (pl_kindCounts : Int → Int) (pl_threads : Int → Int) (pl_size : Int) (pl_seconds : UInt32) (pl_needleX : Int) (pl_needleY : Int) (pl_colour : Int) (x2 : Int) : Option ((Int → Int) × (Int → Int) × (Int → Int) × (Int → Int) × (Int → Int) × (Int → Int) × Int × UInt32 × Int × Int × Int) :=
  zb1 (f_X4_firstX pt_xs pt_size) fun r21 =>
  zb1 (f_X4_firstY pt_ys pt_size) fun r25 =>
  zb10 (f_X3_goTo pl_kinds pl_differencesX pl_differencesY pl_owners pl_kindCounts pl_threads pl_size pl_seconds pl_needleX pl_needleY pl_colour r21 r25 x2 0) fun a29 a30 a31 a32 a33 a34 u35 u36 u37 u38 =>
  zb11 (zlp (fun z => f_X3_sewField_L80 fd_colour pt_xs pt_ys pt_size pl_colour x2 z.1 z.2.1 z.2.2.1 z.2.2.2.1 z.2.2.2.2.1 z.2.2.2.2.2.1 z.2.2.2.2.2.2.1 z.2.2.2.2.2.2.2.1 z.2.2.2.2.2.2.2.2.1 z.2.2.2.2.2.2.2.2.2.1 z.2.2.2.2.2.2.2.2.2.2) zFU (1, a29, a30, a31, a32, a33, a34, u35, u36, u37, u38)) fun w42 w43 w44 w45 w46 w47 w48 w49 w50 w51 w52 =>
  some (w43, w44, w45, w46, w47, w48, w49, w50, w51, w52, pl_colour)
def f_X3_sewField_33 (fd_colour : Int) (pt_xs : Int → Int) (pt_ys : Int → Int) (pt_size : Int) (pl_kinds : Int → Int) (pl_differencesX : Int → Int) (pl_differencesY : Int → Int) (pl_owners : Int → Int) (pl_kindCounts : Int → Int) (pl_threads : Int → Int) (pl_size : Int) (pl_seconds : UInt32) (pl_needleX : Int) (pl_needleY : Int) (pl_colour : Int) (x2 : Int) (x3 : Int) : Option ((Int → Int) × (Int → Int) × (Int → Int) × (Int → Int) × (Int → Int) × (Int → Int) × Int × UInt32 × Int × Int × Int) :=
  zb1 (f_X3_squareToFirst pt_xs pt_ys pt_size pl_needleX pl_needleY) fun r55 =>
  zck (zR r55 ∧ zR (x3 * x3)) <|
  if r55 ≤ (x3 * x3) then
    f_X3_sewField_61 fd_colour pt_xs pt_ys pt_size pl_kinds pl_differencesX pl_differencesY pl_owners pl_kindCounts pl_threads pl_size pl_seconds pl_needleX pl_needleY fd_colour x2
  else
    zb8 (f_X3_put pl_kinds pl_differencesX pl_differencesY pl_owners pl_kindCounts pl_threads pl_size pl_seconds fd_colour 2 0 0 (-1)) fun a61 a62 a63 a64 a65 a66 u67 u68 =>
    f_X3_sewField_61 fd_colour pt_xs pt_ys pt_size a61 a62 a63 a64 a65 a66 u67 u68 pl_needleX pl_needleY fd_colour x2
def f_X3_sewField (fd_colour : Int) (pt_xs : Int → Int) (pt_ys : Int → Int) (pt_size : Int) (pl_kinds : Int → Int) (pl_differencesX : Int → Int) (pl_differencesY : Int → Int) (pl_owners : Int → Int) (pl_kindCounts : Int → Int) (pl_threads : Int → Int) (pl_size : Int) (pl_seconds : UInt32) (pl_needleX : Int) (pl_needleY : Int) (pl_colour : Int) (p2 : Int) (p3 : Int) : Option ((Int → Int) × (Int → Int) × (Int → Int) × (Int → Int) × (Int → Int) × (Int → Int) × Int × UInt32 × Int × Int × Int) :=
  zck (zR pl_colour) <|
  if pl_colour = (-1) then
    f_X3_sewField_33 fd_colour pt_xs pt_ys pt_size pl_kinds pl_differencesX pl_differencesY pl_owners pl_kindCounts pl_threads pl_size pl_seconds pl_needleX pl_needleY pl_colour p2 p3
  else
    zck (zR pl_colour ∧ zR fd_colour) <|
    if pl_colour = fd_colour then
      f_X3_sewField_33 fd_colour pt_xs pt_ys pt_size pl_kinds pl_differencesX pl_differencesY pl_owners pl_kindCounts pl_threads pl_size pl_seconds pl_needleX pl_needleY pl_colour p2 p3
    else
      zb8 (f_X3_put pl_kinds pl_differencesX pl_differencesY pl_owners pl_kindCounts pl_threads pl_size pl_seconds pl_colour 3 0 0 (-1)) fun a75 a76 a77 a78 a79 a80 u81 u82 =>
      f_X3_sewField_33 fd_colour pt_xs pt_ys pt_size a75 a76 a77 a78 a79 a80 u81 u82 pl_needleX pl_needleY pl_colour p2 p3
def f_X5_touch (ra_cells : Int → Int) (ra_cellCount : Int) (p1 : Int) (p2 : Int) : Option ((Int → Int) × Int) :=
  zb1 (f_X6_isWithin p1 0 31) fun r1 =>
  zck (zR r1) <|
  if r1 = 0 then
    some (ra_cells, ra_cellCount)
  else
    zb1 (f_X6_isWithin p2 0 31) fun r7 =>
    zck (zR r7) <|
    if r7 = 0 then
      some (ra_cells, ra_cellCount)
    else
      zlt (((p2 * 32) + p1)) fun v13 =>
      zck (zR v13) <|
      if 1024 ≤ v13 then
        some (ra_cells, ra_cellCount)
      else
        zck (0 ≤ v13 ∧ v13 < 1024) <|
        zck (zR (ra_cells v13)) <|
        if (ra_cells v13) = 0 then
          zck (0 ≤ v13 ∧ v13 < 1024) <|
          zlt (zup ra_cells v13 1) fun a21 =>
          zlt ((ra_cellCount + 1)) fun v22 =>
          some (a21, v22)
        else
          some (ra_cells, ra_cellCount)
def f_X5_walkTo_L28 (x1 : Int) (x2 : Int) (x3 : Int) (x4 : Int) (x5 : Int) (x6 : Int) (ra_cells : Int → Int) (ra_cellCount : Int) : Option ((Int × (Int → Int) × Int) ⊕ (Int × (Int → Int) × Int)) :=
  zck (zR x6 ∧ zR x5) <|
  if x5 < x6 then
    some (.inr (x6, ra_cells, ra_cellCount))
  else
    zb1 (f_X6_placeOf x1 x3 x6 x5) fun r3 =>
    zb1 (f_X6_placeOf x2 x4 x6 x5) fun r7 =>
    zb2 (f_X5_touch ra_cells ra_cellCount r3 r7) fun a11 u12 =>
    some (.inl ((x6 + 1), a11, u12))
def f_X5_walkTo (ra_cells : Int → Int) (ra_cellCount : Int) (p1 : Int) (p2 : Int) (p3 : Int) (p4 : Int) : Option ((Int → Int) × Int) :=
  zb1 (f_X6_greaterDifference (p3 - p1) (p4 - p2)) fun r15 =>
  zck (zR r15) <|
  if r15 = 0 then
    some (ra_cells, ra_cellCount)
  else
    zck (zR r15) <|
    if r15 ≤ 12 then
      zb3 (zlp (fun z => f_X5_walkTo_L28 p1 p2 p3 p4 r15 z.1 z.2.1 z.2.2) zFU (0, ra_cells, ra_cellCount)) fun w24 w25 w26 =>
      some (w25, w26)
    else
      some (ra_cells, ra_cellCount)
def f_X5_walk_L31 (pt_xs : Int → Int) (pt_ys : Int → Int) (pt_size : Int) (x2 : Int) (ra_cells : Int → Int) (ra_cellCount : Int) : Option ((Int × (Int → Int) × Int) ⊕ (Int × (Int → Int) × Int)) :=
  zck (zR x2 ∧ zR pt_size) <|
  if pt_size ≤ x2 then
    some (.inr (x2, ra_cells, ra_cellCount))
  else
    zck (zR x2) <|
    if 2078 ≤ x2 then
      some (.inr (x2, ra_cells, ra_cellCount))
    else
      zck (zR x2) <|
      if 2078 ≤ x2 then
        some (.inr (x2, ra_cells, ra_cellCount))
      else
        zck (0 ≤ (x2 - 1) ∧ (x2 - 1) < 2078) <|
        zck (0 ≤ (x2 - 1) ∧ (x2 - 1) < 2078) <|
        zck (0 ≤ x2 ∧ x2 < 2078) <|
        zck (0 ≤ x2 ∧ x2 < 2078) <|
        zb2 (f_X5_walkTo ra_cells ra_cellCount (pt_xs (x2 - 1)) (pt_ys (x2 - 1)) (pt_xs x2) (pt_ys x2)) fun a11 u12 =>
        some (.inl ((x2 + 1), a11, u12))
def f_X5_walk_L7 (pt_xs : Int → Int) (pt_ys : Int → Int) (pt_size : Int) (ra_cellCount : Int) (x2 : Int) (ra_cells : Int → Int) : Option ((Int × (Int → Int)) ⊕ (Int × (Int → Int))) :=
  zck (zR x2) <|
  if 1024 ≤ x2 then
    some (.inr (x2, ra_cells))
  else
    zck (0 ≤ x2 ∧ x2 < 1024) <|
    zlt (zup ra_cells x2 0) fun a19 =>
    some (.inl ((x2 + 1), a19))
def f_X5_walk (pt_xs : Int → Int) (pt_ys : Int → Int) (pt_size : Int) (ra_cells : Int → Int) (ra_cellCount : Int) : Option ((Int → Int) × Int) :=
  zb2 (zlp (fun z => f_X5_walk_L7 pt_xs pt_ys pt_size 0 z.1 z.2) zFU (0, ra_cells)) fun w22 w23 =>
  zb3 (zlp (fun z => f_X5_walk_L31 pt_xs pt_ys pt_size z.1 z.2.1 z.2.2) zFU (1, w23, 0)) fun w26 w27 w28 =>
  some (w27, w28)
def f_X5_isNear_L27 (ra_cells : Int → Int) (x1 : Int) (x5 : Int) (x6 : Int) : Option ((Int) ⊕ ((Int) ⊕ (Int))) :=
  zck (zR x6 ∧ zR x5) <|
  if x5 < x6 then
    some (.inr (.inl x6))
  else
    zlt (((x6 * 32) + x1)) fun v3 =>
    zck (zR v3) <|
    if v3 < 0 then
      some (.inl (x6 + 1))
    else
      zck (zR v3) <|
      if 1024 ≤ v3 then
        some (.inl (x6 + 1))
      else
        zck (0 ≤ v3 ∧ v3 < 1024) <|
        zck (zR (ra_cells v3)) <|
        if (ra_cells v3) = 0 then
          some (.inl (x6 + 1))
        else
          some (.inr (.inr 1))
def f_X5_isNear (ra_cells : Int → Int) (p1 : Int) (p2 : Int) (p3 : Int) : Option (Int) :=
  zck (zR ((p2 - p3) + 1)) <|
  zlt ((max 0 ((p2 - p3) + 1))) fun v12 =>
  zck (zR ((p2 + p3) - 1)) <|
  zlt ((min 31 ((p2 + p3) - 1))) fun v14 =>
  zbs (zlp (fun z => f_X5_isNear_L27 ra_cells p1 v14 z) zFU v12) (fun w16 =>
    some 0
  ) (fun b => some b)
def f_X5_partCovered_L37 (fd_cornerXs : Int → Int) (fd_cornerYs : Int → Int) (fd_crossings : Int → Int) (fd_cornerCount : Int) (fd_crossingCount : Int) (fd_density : Int) (ra_cells : Int → Int) (x4 : Int) (x5 : Int) (x2 : Int) (x3 : Int) (x6 : Int) : Option ((Int × Int × Int) ⊕ (Int × Int × Int)) :=
  zck (zR x6) <|
  if 32 ≤ x6 then
    some (.inr (x2, x3, x6))
  else
    zb1 (f_X0_spans fd_crossings fd_crossingCount x6) fun r3 =>
    zck (zR r3) <|
    if r3 = 0 then
      some (.inl (x2, x3, (x6 + 1)))
    else
      zb1 (f_X5_isNear ra_cells x6 x5 fd_density) fun r9 =>
      zck (zR r9) <|
      if r9 = 0 then
        zlt ((x3 + 0)) fun v15 =>
        some (.inl ((x2 + 1), v15, (x6 + 1)))
      else
        zlt ((x3 + 1)) fun v16 =>
        some (.inl ((x2 + 1), v16, (x6 + 1)))
def f_X5_partCovered_L21 (fd_cornerXs : Int → Int) (fd_cornerYs : Int → Int) (fd_cornerCount : Int) (fd_density : Int) (ra_cells : Int → Int) (x4 : Int) (x2 : Int) (x3 : Int) (x5 : Int) (fd_crossings : Int → Int) (fd_crossingCount : Int) : Option ((Int × Int × Int × (Int → Int) × Int) ⊕ (Int × Int × Int × (Int → Int) × Int)) :=
  zck (zR x5 ∧ zR x4) <|
  if x4 ≤ x5 then
    some (.inr (x2, x3, x5, fd_crossings, fd_crossingCount))
  else
    zb2 (f_X0_cross fd_cornerXs fd_cornerYs fd_crossings fd_cornerCount fd_crossingCount x5) fun a19 u20 =>
    zb3 (zlp (fun z => f_X5_partCovered_L37 fd_cornerXs fd_cornerYs a19 fd_cornerCount u20 fd_density ra_cells x4 x5 z.1 z.2.1 z.2.2) zFU (x2, x3, 0)) fun w24 w25 w26 =>
    some (.inl (w24, w25, (x5 + 1), a19, u20))
def f_X5_partCovered (fd_cornerXs : Int → Int) (fd_cornerYs : Int → Int) (fd_crossings : Int → Int) (fd_cornerCount : Int) (fd_crossingCount : Int) (fd_density : Int) (ra_cells : Int → Int) : Option (UInt32 × (Int → Int) × Int) :=
  zb1 (f_X0_greatestY fd_cornerYs fd_cornerCount) fun r28 =>
  zck (zR r28) <|
  zlt ((min r28 32)) fun v33 =>
  zb1 (f_X0_leastY fd_cornerYs fd_cornerCount) fun r34 =>
  zb5 (zlp (fun z => f_X5_partCovered_L21 fd_cornerXs fd_cornerYs fd_cornerCount fd_density ra_cells v33 z.1 z.2.1 z.2.2.1 z.2.2.2.1 z.2.2.2.2) zFU (0, 0, r34, fd_crossings, fd_crossingCount)) fun w39 w40 w41 w42 w43 =>
  zck (zR w39) <|
  if w39 = 0 then
    some (0, w42, w43)
  else
    zck (zn32 (FP.fdiv (FP.i2f (zI w40)) (FP.i2f (zI w39)))) <|
    some ((FP.fdiv (FP.i2f (zI w40)) (FP.i2f (zI w39))), w42, w43)
