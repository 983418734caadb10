def f_X6_isWithin (p0 : Int) (p1 : Int) (p2 : Int) : Option (Int) :=
  zck (zR p0 ∧ zR p1) <|
  if p0 < p1 then
    some 0
  else
    zck (zR p0 ∧ zR p2) <|
    if p2 < p0 then
      some 0
    else
      some 1
def f_X6_placeOf (p0 : Int) (p1 : Int) (p2 : Int) (p3 : Int) : Option (Int) :=
  zck (zR p3) <|
  if 0 < p3 then
    zb1 (f_J9_floorDiv_7cf53 ((p1 - p0) * p2) p3) fun r3 =>
    some (p0 + r3)
  else
    some p0
def f_X6_roundedUp (p0 : Int) (p1 : Int) : Option (Int) :=
  zck (zR p1) <|
  if 0 < p1 then
    zck ((zR ((p0 + p1) - 1) ∧ zR p1) ∧ p1 ≠ 0) <|
    some (Int.tdiv ((p0 + p1) - 1) p1)
  else
    some 0
def f_X6_greaterDifference (p0 : Int) (p1 : Int) : Option (Int) :=
  zck (zR p0) <|
  zck (zR p1) <|
  zck (zR (p0.natAbs : Int) ∧ zR (p1.natAbs : Int)) <|
  some (max (p0.natAbs : Int) (p1.natAbs : Int))
def f_X6_wholeRoot_L6 (x0 : Int) (x1 : Int) (x2 : Int) : Option ((Int × Int) ⊕ (Int × Int)) :=
  zck (zR x2) <|
  if x2 ≤ 0 then
    some (.inr (x1, x2))
  else
    zlt ((x1 + x2)) fun v3 =>
    zck (zR (v3 * v3) ∧ zR x0) <|
    if x0 < (v3 * v3) then
      zck (0 ≤ x2 ∧ zR x2) <|
      zlt ((x2 / 2)) fun v7 =>
      some (.inl (x1, v7))
    else
      zck (0 ≤ x2 ∧ zR x2) <|
      zlt ((x2 / 2)) fun v9 =>
      some (.inl (v3, v9))
def f_X6_wholeRoot (p0 : Int) : Option (Int) :=
  zb2 (zlp (fun z => f_X6_wholeRoot_L6 p0 z.1 z.2) zFU (0, 128)) fun w11 w12 =>
  some w11
def f_X0_isFull_17 (fd_column : Int) (fd_cornerCount : Int) (s0 : Int) (s1 : Int) : Option (Int) :=
  zck (zR s0 ∧ zR s1) <|
  if s0 < s1 then
    some 0
  else
    some 1
def f_X0_isFull (fd_column : Int) (fd_cornerCount : Int) : Option (Int) :=
  zck (zR fd_column) <|
  if fd_column = 0 then
    f_X0_isFull_17 fd_column fd_cornerCount fd_cornerCount 8
  else
    f_X0_isFull_17 fd_column fd_cornerCount fd_cornerCount 4
def f_X0_putCorner_44 (fd_cornerXs : Int → Int) (fd_cornerYs : Int → Int) (fd_cornerCount : Int) (fd_drawn : Int) : Option ((Int → Int) × (Int → Int) × Int × Int) :=
  some (fd_cornerXs, fd_cornerYs, fd_cornerCount, 0)
def f_X0_putCorner (fd_cornerXs : Int → Int) (fd_cornerYs : Int → Int) (fd_cornerCount : Int) (fd_drawn : Int) (p1 : Int) (p2 : Int) : Option ((Int → Int) × (Int → Int) × Int × Int) :=
  zck (zR fd_cornerCount) <|
  if 8 ≤ fd_cornerCount then
    f_X0_putCorner_44 fd_cornerXs fd_cornerYs fd_cornerCount fd_drawn
  else
    zck (zR fd_cornerCount) <|
    if 8 ≤ fd_cornerCount then
      f_X0_putCorner_44 fd_cornerXs fd_cornerYs fd_cornerCount fd_drawn
    else
      zck (0 ≤ fd_cornerCount ∧ fd_cornerCount < 8) <|
      zlt (zup fd_cornerXs fd_cornerCount p1) fun a8 =>
      zck (0 ≤ fd_cornerCount ∧ fd_cornerCount < 8) <|
      zlt (zup fd_cornerYs fd_cornerCount p2) fun a11 =>
      zlt ((fd_cornerCount + 1)) fun v12 =>
      f_X0_putCorner_44 a8 a11 v12 fd_drawn
def f_X0_settle (fd_density : Int) (fd_length : Int) (fd_shift : Int) (fd_pull : Int) (fd_underlay : Int) (fd_drawn : Int) (p1 : Int) (p2 : Int) (p3 : Int) (p4 : Int) (p5 : Int) : Option (Int × Int × Int × Int × Int × Int) :=
  zck (p5 = 0 ∨ p5 = 1) <|
  some (p1, p2, p3, p4, p5, 0)
def f_X0_canResize_L2 (fd_cornerXs : Int → Int) (fd_cornerYs : Int → Int) (fd_cornerCount : Int) (x1 : Int) (x2 : Int) : Option ((Int) ⊕ ((Int) ⊕ (Int))) :=
  zck (zR x2 ∧ zR fd_cornerCount) <|
  if fd_cornerCount ≤ x2 then
    some (.inr (.inl x2))
  else
    zck (zR x2) <|
    if 8 ≤ x2 then
      some (.inr (.inl x2))
    else
      zck (zR x2) <|
      if 8 ≤ x2 then
        some (.inr (.inl x2))
      else
        zck (0 ≤ x2 ∧ x2 < 8) <|
        zck (0 ≤ x2 ∧ x2 < 8) <|
        zck (zR (fd_cornerXs x2) ∧ zR (fd_cornerYs x2)) <|
        zlt ((max (fd_cornerXs x2) (fd_cornerYs x2))) fun v10 =>
        zck (zR (v10 * x1)) <|
        zck (zR (Int.tdiv (v10 * x1) 100)) <|
        if (Int.tdiv (v10 * x1) 100) < 32 then
          some (.inl (x2 + 1))
        else
          some (.inr (.inr 0))
def f_X0_canResize (fd_cornerXs : Int → Int) (fd_cornerYs : Int → Int) (fd_cornerCount : Int) (p1 : Int) : Option (Int) :=
  zbs (zlp (fun z => f_X0_canResize_L2 fd_cornerXs fd_cornerYs fd_cornerCount p1 z) zFU 0) (fun w15 =>
    some 1
  ) (fun b => some b)
def f_X0_resize_68 (fd_cornerXs : Int → Int) (fd_cornerYs : Int → Int) (fd_cornerCount : Int) (fd_drawn : Int) : Option ((Int → Int) × (Int → Int) × Int) :=
  some (fd_cornerXs, fd_cornerYs, 0)
def f_X0_resize_L2 (fd_cornerCount : Int) (fd_drawn : Int) (x1 : Int) (x2 : Int) (fd_cornerXs : Int → Int) (fd_cornerYs : Int → Int) : Option ((Int × (Int → Int) × (Int → Int)) ⊕ (Int × (Int → Int) × (Int → Int))) :=
  zck (zR x2 ∧ zR fd_cornerCount) <|
  if fd_cornerCount ≤ x2 then
    some (.inr (x2, fd_cornerXs, fd_cornerYs))
  else
    zck (zR x2) <|
    if 8 ≤ x2 then
      some (.inr (x2, fd_cornerXs, fd_cornerYs))
    else
      zck (zR x2) <|
      if 8 ≤ x2 then
        some (.inr (x2, fd_cornerXs, fd_cornerYs))
      else
        zck (0 ≤ x2 ∧ x2 < 8) <|
        zck (zR ((fd_cornerXs x2) * x1)) <|
        zck (0 ≤ x2 ∧ x2 < 8) <|
        zlt (zup fd_cornerXs x2 (Int.tdiv ((fd_cornerXs x2) * x1) 100)) fun a12 =>
        zck (0 ≤ x2 ∧ x2 < 8) <|
        zck (zR ((fd_cornerYs x2) * x1)) <|
        zck (0 ≤ x2 ∧ x2 < 8) <|
        zlt (zup fd_cornerYs x2 (Int.tdiv ((fd_cornerYs x2) * x1) 100)) fun a17 =>
        some (.inl ((x2 + 1), a12, a17))
def f_X0_resize (fd_cornerXs : Int → Int) (fd_cornerYs : Int → Int) (fd_cornerCount : Int) (fd_drawn : Int) (p1 : Int) : Option ((Int → Int) × (Int → Int) × Int) :=
  zb3 (zlp (fun z => f_X0_resize_L2 fd_cornerCount fd_drawn p1 z.1 z.2.1 z.2.2) zFU (0, fd_cornerXs, fd_cornerYs)) fun w19 w20 w21 =>
  f_X0_resize_68 w20 w21 fd_cornerCount fd_drawn
def f_X4_put (pt_xs : Int → Int) (pt_ys : Int → Int) (pt_size : Int) (p1 : Int) (p2 : Int) : Option ((Int → Int) × (Int → Int) × Int) :=
  zck (zR pt_size) <|
  if 2078 ≤ pt_size then
    some (pt_xs, pt_ys, pt_size)
  else
    zck (zR pt_size) <|
    if 2078 ≤ pt_size then
      some (pt_xs, pt_ys, pt_size)
    else
      zck (0 ≤ pt_size ∧ pt_size < 2078) <|
      zlt (zup pt_xs pt_size p1) fun a7 =>
      zck (0 ≤ pt_size ∧ pt_size < 2078) <|
      zlt (zup pt_ys pt_size p2) fun a10 =>
      zlt ((pt_size + 1)) fun v11 =>
      some (a7, a10, v11)
def f_X0_drawColumn_L105 (fd_cornerXs : Int → Int) (fd_cornerYs : Int → Int) (fd_cornerCount : Int) (fd_density : Int) (x5 : Int) (x6 : Int) (pt_xs : Int → Int) (pt_ys : Int → Int) (pt_size : Int) : Option ((Int × (Int → Int) × (Int → Int) × Int) ⊕ (Int × (Int → Int) × (Int → Int) × Int)) :=
  zck (zR x6 ∧ zR x5) <|
  if x5 < x6 then
    some (.inr (x6, pt_xs, pt_ys, pt_size))
  else
    zb1 (f_X6_placeOf (fd_cornerXs 0) (fd_cornerXs 1) x6 x5) fun r3 =>
    zb1 (f_X6_placeOf (fd_cornerYs 0) (fd_cornerYs 1) x6 x5) fun r7 =>
    zb3 (f_X4_put pt_xs pt_ys pt_size r3 r7) fun a11 a12 u13 =>
    zb1 (f_X6_placeOf (fd_cornerXs 3) (fd_cornerXs 2) x6 x5) fun r16 =>
    zb1 (f_X6_placeOf (fd_cornerYs 3) (fd_cornerYs 2) x6 x5) fun r20 =>
    zb3 (f_X4_put a11 a12 u13 r16 r20) fun a24 a25 u26 =>
    some (.inl ((x6 + 1), a24, a25, u26))
def f_X0_drawColumn (fd_cornerXs : Int → Int) (fd_cornerYs : Int → Int) (fd_cornerCount : Int) (fd_density : Int) (pt_xs : Int → Int) (pt_ys : Int → Int) (pt_size : Int) : Option ((Int → Int) × (Int → Int) × Int) :=
  zck (zR fd_cornerCount) <|
  if fd_cornerCount < 4 then
    some (pt_xs, pt_ys, pt_size)
  else
    zck (zR fd_cornerCount) <|
    if 8 < fd_cornerCount then
      some (pt_xs, pt_ys, pt_size)
    else
      zck (zR fd_cornerCount) <|
      if 8 < fd_cornerCount then
        some (pt_xs, pt_ys, pt_size)
      else
        zck (zR fd_density) <|
        if 0 < fd_density then
          zb1 (f_X6_greaterDifference ((fd_cornerXs 1) - (fd_cornerXs 0)) ((fd_cornerYs 1) - (fd_cornerYs 0))) fun r37 =>
          zb1 (f_X6_greaterDifference ((fd_cornerXs 2) - (fd_cornerXs 3)) ((fd_cornerYs 2) - (fd_cornerYs 3))) fun r41 =>
          zck (zR r37 ∧ zR r41) <|
          zck ((zR (max r37 r41) ∧ zR fd_density) ∧ fd_density ≠ 0) <|
          zlt (((Int.tdiv (max r37 r41) fd_density) + 1)) fun v47 =>
          zb4 (zlp (fun z => f_X0_drawColumn_L105 fd_cornerXs fd_cornerYs fd_cornerCount fd_density v47 z.1 z.2.1 z.2.2.1 z.2.2.2) zFU (0, pt_xs, pt_ys, pt_size)) fun w49 w50 w51 w52 =>
          some (w50, w51, w52)
        else
          some (pt_xs, pt_ys, pt_size)
def f_X0_cornerBehind (fd_cornerCount : Int) (p1 : Int) : Option (Int) :=
  zck (zR (p1 + 1) ∧ zR fd_cornerCount) <|
  if fd_cornerCount ≤ (p1 + 1) then
    some 0
  else
    some (p1 + 1)
def f_X0_drawEdge_L22 (fd_length : Int) (x1 : Int) (x2 : Int) (x3 : Int) (x4 : Int) (x5 : Int) (x6 : Int) (pt_xs : Int → Int) (pt_ys : Int → Int) (pt_size : Int) : Option ((Int × (Int → Int) × (Int → Int) × Int) ⊕ (Int × (Int → Int) × (Int → Int) × Int)) :=
  zck (zR x6 ∧ zR x5) <|
  if x5 < x6 then
    some (.inr (x6, pt_xs, pt_ys, pt_size))
  else
    zb1 (f_X6_placeOf x1 x3 x6 x5) fun r3 =>
    zb1 (f_X6_placeOf x2 x4 x6 x5) fun r7 =>
    zb3 (f_X4_put pt_xs pt_ys pt_size r3 r7) fun a11 a12 u13 =>
    some (.inl ((x6 + 1), a11, a12, u13))
def f_X0_drawEdge (fd_length : Int) (pt_xs : Int → Int) (pt_ys : Int → Int) (pt_size : Int) (p1 : Int) (p2 : Int) (p3 : Int) (p4 : Int) : Option ((Int → Int) × (Int → Int) × Int) :=
  zb1 (f_X6_greaterDifference (p3 - p1) (p4 - p2)) fun r16 =>
  zb1 (f_X6_roundedUp r16 fd_length) fun r20 =>
  zb4 (zlp (fun z => f_X0_drawEdge_L22 fd_length p1 p2 p3 p4 r20 z.1 z.2.1 z.2.2.1 z.2.2.2) zFU (1, pt_xs, pt_ys, pt_size)) fun w25 w26 w27 w28 =>
  some (w26, w27, w28)
def f_X0_drawUnderlay_L21 (fd_cornerXs : Int → Int) (fd_cornerYs : Int → Int) (fd_cornerCount : Int) (fd_length : Int) (x1 : Int) (pt_xs : Int → Int) (pt_ys : Int → Int) (pt_size : Int) : Option ((Int × (Int → Int) × (Int → Int) × Int) ⊕ (Int × (Int → Int) × (Int → Int) × Int)) :=
  zck (zR x1 ∧ zR fd_cornerCount) <|
  if fd_cornerCount ≤ x1 then
    some (.inr (x1, pt_xs, pt_ys, pt_size))
  else
    zck (zR x1) <|
    if 8 ≤ x1 then
      some (.inr (x1, pt_xs, pt_ys, pt_size))
    else
      zck (zR x1) <|
      if 8 ≤ x1 then
        some (.inr (x1, pt_xs, pt_ys, pt_size))
      else
        zb1 (f_X0_cornerBehind fd_cornerCount x1) fun r7 =>
        zck (zR r7) <|
        if 8 ≤ r7 then
          some (.inl ((x1 + 1), pt_xs, pt_ys, pt_size))
        else
          zck (zR r7) <|
          if 8 ≤ r7 then
            some (.inl ((x1 + 1), pt_xs, pt_ys, pt_size))
          else
            zck (0 ≤ x1 ∧ x1 < 8) <|
            zck (0 ≤ x1 ∧ x1 < 8) <|
            zck (0 ≤ r7 ∧ r7 < 8) <|
            zck (0 ≤ r7 ∧ r7 < 8) <|
            zb3 (f_X0_drawEdge fd_length pt_xs pt_ys pt_size (fd_cornerXs x1) (fd_cornerYs x1) (fd_cornerXs r7) (fd_cornerYs r7)) fun a19 a20 u21 =>
            some (.inl ((x1 + 1), a19, a20, u21))
def f_X0_drawUnderlay (fd_cornerXs : Int → Int) (fd_cornerYs : Int → Int) (fd_cornerCount : Int) (fd_length : Int) (pt_xs : Int → Int) (pt_ys : Int → Int) (pt_size : Int) : Option ((Int → Int) × (Int → Int) × Int) :=
  zb3 (f_X4_put pt_xs pt_ys pt_size (fd_cornerXs 0) (fd_cornerYs 0)) fun a24 a25 u26 =>
  zb4 (zlp (fun z => f_X0_drawUnderlay_L21 fd_cornerXs fd_cornerYs fd_cornerCount fd_length z.1 z.2.1 z.2.2.1 z.2.2.2) zFU (0, a24, a25, u26)) fun w30 w31 w32 w33 =>
  some (w31, w32, w33)
def f_X0_leastY_L5 (fd_cornerYs : Int → Int) (fd_cornerCount : Int) (x1 : Int) (x2 : Int) : Option ((Int × Int) ⊕ (Int × Int)) :=
  zck (zR x2 ∧ zR fd_cornerCount) <|
  if fd_cornerCount ≤ x2 then
    some (.inr (x1, x2))
  else
    zck (zR x2) <|
    if 8 ≤ x2 then
      some (.inr (x1, x2))
    else
      zck (0 ≤ x2 ∧ x2 < 8) <|
      zck (zR x1 ∧ zR (fd_cornerYs x2)) <|
      zlt ((min x1 (fd_cornerYs x2))) fun v7 =>
      some (.inl (v7, (x2 + 1)))
def f_X0_leastY (fd_cornerYs : Int → Int) (fd_cornerCount : Int) : Option (Int) :=
  zb2 (zlp (fun z => f_X0_leastY_L5 fd_cornerYs fd_cornerCount z.1 z.2) zFU (32, 0)) fun w9 w10 =>
  some w9
def f_X0_greatestY_L4 (fd_cornerYs : Int → Int) (fd_cornerCount : Int) (x1 : Int) (x2 : Int) : Option ((Int × Int) ⊕ (Int × Int)) :=
  zck (zR x2 ∧ zR fd_cornerCount) <|
  if fd_cornerCount ≤ x2 then
    some (.inr (x1, x2))
  else
    zck (zR x2) <|
    if 8 ≤ x2 then
      some (.inr (x1, x2))
    else
      zck (0 ≤ x2 ∧ x2 < 8) <|
      zck (zR x1 ∧ zR (fd_cornerYs x2)) <|
      zlt ((max x1 (fd_cornerYs x2))) fun v7 =>
      some (.inl (v7, (x2 + 1)))
def f_X0_greatestY (fd_cornerYs : Int → Int) (fd_cornerCount : Int) : Option (Int) :=
  zb2 (zlp (fun z => f_X0_greatestY_L4 fd_cornerYs fd_cornerCount z.1 z.2) zFU (0, 0)) fun w9 w10 =>
  some w9
def f_X0_putCrossing_51 (fd_crossings : Int → Int) (fd_crossingCount : Int) (x1 : Int) (x2 : Int) : Option ((Int → Int) × Int) :=
  zck (0 ≤ x2 ∧ x2 < 8) <|
  zlt (zup fd_crossings x2 x1) fun a3 =>
  zlt ((fd_crossingCount + 1)) fun v4 =>
  some (a3, v4)
def f_X0_putCrossing_L15 (fd_crossingCount : Int) (x1 : Int) (x2 : Int) (fd_crossings : Int → Int) : Option ((Int × (Int → Int)) ⊕ (Int × (Int → Int))) :=
  zck (zR x2) <|
  if x2 ≤ 0 then
    some (.inr (x2, fd_crossings))
  else
    zck (0 ≤ (x2 - 1) ∧ (x2 - 1) < 8) <|
    zck (zR (fd_crossings (x2 - 1)) ∧ zR x1) <|
    if (fd_crossings (x2 - 1)) ≤ x1 then
      some (.inr (x2, fd_crossings))
    else
      zck (0 ≤ (x2 - 1) ∧ (x2 - 1) < 8) <|
      zck (0 ≤ x2 ∧ x2 < 8) <|
      zlt (zup fd_crossings x2 (fd_crossings (x2 - 1))) fun a14 =>
      some (.inl ((x2 + (-1)), a14))
def f_X0_putCrossing (fd_crossings : Int → Int) (fd_crossingCount : Int) (p1 : Int) : Option ((Int → Int) × Int) :=
  zck (zR fd_crossingCount) <|
  if fd_crossingCount < 8 then
    zb2 (zlp (fun z => f_X0_putCrossing_L15 fd_crossingCount p1 z.1 z.2) zFU (fd_crossingCount, fd_crossings)) fun w18 w19 =>
    f_X0_putCrossing_51 w19 fd_crossingCount p1 w18
  else
    some (fd_crossings, fd_crossingCount)
def f_X0_cross_L7 (fd_cornerXs : Int → Int) (fd_cornerYs : Int → Int) (fd_cornerCount : Int) (x1 : Int) (x2 : Int) (fd_crossings : Int → Int) (fd_crossingCount : Int) : Option ((Int × (Int → Int) × Int) ⊕ ((Int × (Int → Int) × Int) ⊕ ((Int → Int) × Int))) :=
  zck (zR x2 ∧ zR fd_cornerCount) <|
  if fd_cornerCount ≤ x2 then
    some (.inr (.inl (x2, fd_crossings, fd_crossingCount)))
  else
    zck (zR x2) <|
    if 8 ≤ x2 then
      some (.inr (.inl (x2, fd_crossings, fd_crossingCount)))
    else
      zck (zR x2) <|
      if 8 ≤ x2 then
        some (.inr (.inl (x2, fd_crossings, fd_crossingCount)))
      else
        zb1 (f_X0_cornerBehind fd_cornerCount x2) fun r7 =>
        zck (zR r7) <|
        if 8 ≤ r7 then
          some (.inr (.inr (fd_crossings, fd_crossingCount)))
        else
          zck (zR r7) <|
          if r7 < 8 then
            zck (0 ≤ x2 ∧ x2 < 8) <|
            zlt ((fd_cornerYs x2)) fun v16 =>
            zck (0 ≤ r7 ∧ r7 < 8) <|
            zlt ((fd_cornerYs r7)) fun v18 =>
            zck (zR v16 ∧ zR v18) <|
            if v16 = v18 then
              some (.inl ((x2 + 1), fd_crossings, fd_crossingCount))
            else
              zck (zR v16 ∧ zR v18) <|
              zck (zR (min v16 v18) ∧ zR x1) <|
              if x1 < (min v16 v18) then
                some (.inl ((x2 + 1), fd_crossings, fd_crossingCount))
              else
                zck (zR v16 ∧ zR v18) <|
                zck (zR x1 ∧ zR (max v16 v18)) <|
                if (max v16 v18) ≤ x1 then
                  some (.inl ((x2 + 1), fd_crossings, fd_crossingCount))
                else
                  zck (0 ≤ r7 ∧ r7 < 8) <|
                  zck (0 ≤ x2 ∧ x2 < 8) <|
                  zlt (((x1 - v16) * ((fd_cornerXs r7) - (fd_cornerXs x2)))) fun v29 =>
                  zck (0 ≤ x2 ∧ x2 < 8) <|
                  zb1 (f_J9_floorDiv_7cf53 v29 (v18 - v16)) fun r31 =>
                  zb2 (f_X0_putCrossing fd_crossings fd_crossingCount ((fd_cornerXs x2) + r31)) fun a35 u36 =>
                  some (.inl ((x2 + 1), a35, u36))
          else
            some (.inr (.inr (fd_crossings, fd_crossingCount)))
def f_X0_cross (fd_cornerXs : Int → Int) (fd_cornerYs : Int → Int) (fd_crossings : Int → Int) (fd_cornerCount : Int) (fd_crossingCount : Int) (p1 : Int) : Option ((Int → Int) × Int) :=
  zbs (zlp (fun z => f_X0_cross_L7 fd_cornerXs fd_cornerYs fd_cornerCount p1 z.1 z.2.1 z.2.2) zFU (0, fd_crossings, 0)) (fun (w41, w42, w43) =>
    some (w42, w43)
  ) (fun b => some b)
def f_X0_drawSpan_177 (fd_crossings : Int → Int) (fd_length : Int) (fd_shift : Int) (fd_pull : Int) (pt_xs : Int → Int) (pt_ys : Int → Int) (pt_size : Int) (x3 : Int) (s1 : Int) : Option ((Int → Int) × (Int → Int) × Int) :=
  zb3 (f_X4_put pt_xs pt_ys pt_size s1 x3) fun a1 a2 u3 =>
  some (a1, a2, u3)
def f_X0_drawSpan_L92 (fd_crossings : Int → Int) (fd_length : Int) (fd_shift : Int) (fd_pull : Int) (x2 : Int) (x3 : Int) (x4 : Int) (x6 : Int) (x7 : Int) (x8 : Int) (x9 : Int) (x10 : Int) (pt_xs : Int → Int) (pt_ys : Int → Int) (pt_size : Int) : Option ((Int × (Int → Int) × (Int → Int) × Int) ⊕ (Int × (Int → Int) × (Int → Int) × Int)) :=
  zck (zR x10 ∧ zR (x7 - x6)) <|
  if (x7 - x6) ≤ x10 then
    some (.inr (x10, pt_xs, pt_ys, pt_size))
  else
    zlt ((x8 + (x9 * x10))) fun v8 =>
    zck (zR fd_length) <|
    if fd_length ≤ 0 then
      some (.inl ((x10 + 1), pt_xs, pt_ys, pt_size))
    else
      zb1 (f_J9_floorMod_7cf53 (v8 - (x2 * fd_shift)) fd_length) fun r11 =>
      zck (zR r11) <|
      if r11 = 0 then
        zb3 (f_X4_put pt_xs pt_ys pt_size v8 x3) fun a17 a18 u19 =>
        some (.inl ((x10 + 1), a17, a18, u19))
      else
        some (.inl ((x10 + 1), pt_xs, pt_ys, pt_size))
def f_X0_drawSpan_77 (fd_crossings : Int → Int) (fd_length : Int) (fd_shift : Int) (fd_pull : Int) (pt_xs : Int → Int) (pt_ys : Int → Int) (pt_size : Int) (x2 : Int) (x3 : Int) (x4 : Int) (x6 : Int) (x7 : Int) (x8 : Int) (s0 : Int) : Option ((Int → Int) × (Int → Int) × Int) :=
  zb3 (f_X4_put pt_xs pt_ys pt_size x8 x3) fun a22 a23 u24 =>
  zb4 (zlp (fun z => f_X0_drawSpan_L92 fd_crossings fd_length fd_shift fd_pull x2 x3 x4 x6 x7 x8 s0 z.1 z.2.1 z.2.2.1 z.2.2.2) zFU (1, a22, a23, u24)) fun w28 w29 w30 w31 =>
  zck (zR x6 ∧ zR x7) <|
  if x6 = x7 then
    some (w29, w30, w31)
  else
    zck (zR x4) <|
    if x4 = 0 then
      f_X0_drawSpan_177 fd_crossings fd_length fd_shift fd_pull w29 w30 w31 x3 x7
    else
      f_X0_drawSpan_177 fd_crossings fd_length fd_shift fd_pull w29 w30 w31 x3 x6
def f_X0_drawSpan_65 (fd_crossings : Int → Int) (fd_length : Int) (fd_shift : Int) (fd_pull : Int) (pt_xs : Int → Int) (pt_ys : Int → Int) (pt_size : Int) (x2 : Int) (x3 : Int) (x4 : Int) (x6 : Int) (x7 : Int) (s0 : Int) : Option ((Int → Int) × (Int → Int) × Int) :=
  zck (zR x4) <|
  if x4 = 0 then
    f_X0_drawSpan_77 fd_crossings fd_length fd_shift fd_pull pt_xs pt_ys pt_size x2 x3 x4 x6 x7 s0 1
  else
    f_X0_drawSpan_77 fd_crossings fd_length fd_shift fd_pull pt_xs pt_ys pt_size x2 x3 x4 x6 x7 s0 (-1)
def f_X0_drawSpan (fd_crossings : Int → Int) (fd_length : Int) (fd_shift : Int) (fd_pull : Int) (pt_xs : Int → Int) (pt_ys : Int → Int) (pt_size : Int) (p1 : Int) (p2 : Int) (p3 : Int) (p4 : Int) : Option ((Int → Int) × (Int → Int) × Int) :=
  zlt ((2 * p1)) fun v39 =>
  zck (zR v39) <|
  if v39 < 0 then
    some (pt_xs, pt_ys, pt_size)
  else
    zck (zR (v39 + 1)) <|
    if (v39 + 1) < 8 then
      zck (0 ≤ v39 ∧ v39 < 8) <|
      zlt (((fd_crossings v39) - fd_pull)) fun v45 =>
      zck (0 ≤ (v39 + 1) ∧ (v39 + 1) < 8) <|
      zlt (((fd_crossings (v39 + 1)) + fd_pull)) fun v47 =>
      zck (zR p4) <|
      if p4 = 0 then
        f_X0_drawSpan_65 fd_crossings fd_length fd_shift fd_pull pt_xs pt_ys pt_size p2 p3 p4 v45 v47 v45
      else
        f_X0_drawSpan_65 fd_crossings fd_length fd_shift fd_pull pt_xs pt_ys pt_size p2 p3 p4 v45 v47 v47
    else
      some (pt_xs, pt_ys, pt_size)
def f_X0_drawRows_L67_92 (fd_cornerXs : Int → Int) (fd_cornerYs : Int → Int) (fd_crossings : Int → Int) (fd_cornerCount : Int) (fd_crossingCount : Int) (fd_density : Int) (fd_length : Int) (fd_shift : Int) (fd_pull : Int) (pt_xs : Int → Int) (pt_ys : Int → Int) (pt_size : Int) (x1 : Int) (x2 : Int) (x3 : Int) (x4 : Int) (x5 : Int) (x6 : Int) (x7 : Int) (s1 : Int) : Option ((Int × (Int → Int) × (Int → Int) × Int) ⊕ (Int × (Int → Int) × (Int → Int) × Int)) :=
  zb3 (f_X0_drawSpan fd_crossings fd_length fd_shift fd_pull pt_xs pt_ys pt_size s1 x3 x4 x6) fun a1 a2 u3 =>
  some (.inl ((x7 + 1), a1, a2, u3))
def f_X0_drawRows_L67 (fd_cornerXs : Int → Int) (fd_cornerYs : Int → Int) (fd_crossings : Int → Int) (fd_cornerCount : Int) (fd_crossingCount : Int) (fd_density : Int) (fd_length : Int) (fd_shift : Int) (fd_pull : Int) (x1 : Int) (x2 : Int) (x3 : Int) (x4 : Int) (x5 : Int) (x6 : Int) (x7 : Int) (pt_xs : Int → Int) (pt_ys : Int → Int) (pt_size : Int) : Option ((Int × (Int → Int) × (Int → Int) × Int) ⊕ (Int × (Int → Int) × (Int → Int) × Int)) :=
  zck (zR x7 ∧ zR x5) <|
  if x5 ≤ x7 then
    some (.inr (x7, pt_xs, pt_ys, pt_size))
  else
    zck (zR x6) <|
    if x6 = 0 then
      f_X0_drawRows_L67_92 fd_cornerXs fd_cornerYs fd_crossings fd_cornerCount fd_crossingCount fd_density fd_length fd_shift fd_pull pt_xs pt_ys pt_size x1 x2 x3 x4 x5 x6 x7 x7
    else
      f_X0_drawRows_L67_92 fd_cornerXs fd_cornerYs fd_crossings fd_cornerCount fd_crossingCount fd_density fd_length fd_shift fd_pull pt_xs pt_ys pt_size x1 x2 x3 x4 x5 x6 x7 ((x5 - 1) - x7)
def f_X0_drawRows_L21_62 (fd_cornerXs : Int → Int) (fd_cornerYs : Int → Int) (fd_crossings : Int → Int) (fd_cornerCount : Int) (fd_crossingCount : Int) (fd_density : Int) (fd_length : Int) (fd_shift : Int) (fd_pull : Int) (pt_xs : Int → Int) (pt_ys : Int → Int) (pt_size : Int) (x1 : Int) (x2 : Int) (x3 : Int) (x4 : Int) (x5 : Int) (s0 : Int) : Option ((Int × (Int → Int) × Int × (Int → Int) × (Int → Int) × Int) ⊕ (Int × (Int → Int) × Int × (Int → Int) × (Int → Int) × Int)) :=
  zb4 (zlp (fun z => f_X0_drawRows_L67 fd_cornerXs fd_cornerYs fd_crossings fd_cornerCount fd_crossingCount fd_density fd_length fd_shift fd_pull x1 x2 x3 x4 x5 s0 z.1 z.2.1 z.2.2.1 z.2.2.2) zFU (0, pt_xs, pt_ys, pt_size)) fun w11 w12 w13 w14 =>
  some (.inl ((x3 + 1), fd_crossings, fd_crossingCount, w12, w13, w14))
def f_X0_drawRows_L21 (fd_cornerXs : Int → Int) (fd_cornerYs : Int → Int) (fd_cornerCount : Int) (fd_density : Int) (fd_length : Int) (fd_shift : Int) (fd_pull : Int) (x1 : Int) (x2 : Int) (x3 : Int) (fd_crossings : Int → Int) (fd_crossingCount : Int) (pt_xs : Int → Int) (pt_ys : Int → Int) (pt_size : Int) : Option ((Int × (Int → Int) × Int × (Int → Int) × (Int → Int) × Int) ⊕ (Int × (Int → Int) × Int × (Int → Int) × (Int → Int) × Int)) :=
  zck (zR x3 ∧ zR x2) <|
  if x2 ≤ x3 then
    some (.inr (x3, fd_crossings, fd_crossingCount, pt_xs, pt_ys, pt_size))
  else
    zlt ((x1 + (x3 * fd_density))) fun v18 =>
    zb2 (f_X0_cross fd_cornerXs fd_cornerYs fd_crossings fd_cornerCount fd_crossingCount v18) fun a19 u20 =>
    zck (zR u20) <|
    zlt ((Int.tdiv u20 2)) fun v24 =>
    zck (zR x3) <|
    zck (zR (Int.tmod x3 2)) <|
    if (Int.tmod x3 2) = 1 then
      f_X0_drawRows_L21_62 fd_cornerXs fd_cornerYs a19 fd_cornerCount u20 fd_density fd_length fd_shift fd_pull pt_xs pt_ys pt_size x1 x2 x3 v18 v24 1
    else
      f_X0_drawRows_L21_62 fd_cornerXs fd_cornerYs a19 fd_cornerCount u20 fd_density fd_length fd_shift fd_pull pt_xs pt_ys pt_size x1 x2 x3 v18 v24 0
def f_X0_drawRows (fd_cornerXs : Int → Int) (fd_cornerYs : Int → Int) (fd_crossings : Int → Int) (fd_cornerCount : Int) (fd_crossingCount : Int) (fd_density : Int) (fd_length : Int) (fd_shift : Int) (fd_pull : Int) (pt_xs : Int → Int) (pt_ys : Int → Int) (pt_size : Int) : Option ((Int → Int) × Int × (Int → Int) × (Int → Int) × Int) :=
  zb1 (f_X0_leastY fd_cornerYs fd_cornerCount) fun r28 =>
  zb1 (f_X0_greatestY fd_cornerYs fd_cornerCount) fun r32 =>
  zb1 (f_X6_roundedUp (r32 - r28) fd_density) fun r36 =>
  zb6 (zlp (fun z => f_X0_drawRows_L21 fd_cornerXs fd_cornerYs fd_cornerCount fd_density fd_length fd_shift fd_pull r28 r36 z.1 z.2.1 z.2.2.1 z.2.2.2.1 z.2.2.2.2.1 z.2.2.2.2.2) zFU (0, fd_crossings, fd_crossingCount, pt_xs, pt_ys, pt_size)) fun w41 w42 w43 w44 w45 w46 =>
  some (w42, w43, w44, w45, w46)
def f_X0_spans_L2 (fd_crossings : Int → Int) (fd_crossingCount : Int) (x1 : Int) (x2 : Int) : Option ((Int) ⊕ ((Int) ⊕ (Int))) :=
  zck (zR (x2 + 1) ∧ zR fd_crossingCount) <|
  if fd_crossingCount ≤ (x2 + 1) then
    some (.inr (.inl x2))
  else
    zck (zR (x2 + 1)) <|
    if 8 ≤ (x2 + 1) then
      some (.inr (.inl x2))
    else
      zck (0 ≤ x2 ∧ x2 < 8) <|
      zck (zR (fd_crossings x2) ∧ zR x1) <|
      if x1 < (fd_crossings x2) then
        some (.inl (x2 + 2))
      else
        zck (0 ≤ (x2 + 1) ∧ (x2 + 1) < 8) <|
        zck (zR x1 ∧ zR (fd_crossings (x2 + 1))) <|
        if (fd_crossings (x2 + 1)) < x1 then
          some (.inl (x2 + 2))
        else
          some (.inr (.inr 1))
def f_X0_spans (fd_crossings : Int → Int) (fd_crossingCount : Int) (p1 : Int) : Option (Int) :=
  zbs (zlp (fun z => f_X0_spans_L2 fd_crossings fd_crossingCount p1 z) zFU 0) (fun w12 =>
    some 0
  ) (fun b => some b)
def f_X1_has (ma_headCount : Int) (p1 : Int) : Option (Int) :=
  zck (zR p1) <|
  if p1 < 0 then
    some 0
  else
    zck (zR p1 ∧ zR ma_headCount) <|
    if ma_headCount ≤ p1 then
      some 0
    else
      zck (zR p1) <|
      if 4 ≤ p1 then
        some 0
      else
        zck (zR p1) <|
        if 4 ≤ p1 then
          some 0
        else
          zck (zR p1) <|
          if 4 ≤ p1 then
            some 0
          else
            some 1
def f_X3_told (pl_kinds : Int → Int) (pl_differencesX : Int → Int) (pl_differencesY : Int → Int) (pl_owners : Int → Int) (p1 : Int) (p2 : Int) : Option (Int) :=
  zck (zR p1) <|
  if p1 < 0 then
    some (-1)
  else
    zck (zR p1) <|
    if 16641 ≤ p1 then
      some (-1)
    else
      zck (zR p1) <|
      if 16641 ≤ p1 then
        some (-1)
      else
        zck (zR p1) <|
        if 16641 ≤ p1 then
          some (-1)
        else
          zck (zR p1) <|
          if p1 < 16641 then
            zck (zR p2) <|
            if p2 = 0 then
              zck (0 ≤ p1 ∧ p1 < 16641) <|
              some (pl_kinds p1)
            else
              if p2 = 1 then
                zck (0 ≤ p1 ∧ p1 < 16641) <|
                some (pl_differencesX p1)
              else
                if p2 = 2 then
                  zck (0 ≤ p1 ∧ p1 < 16641) <|
                  some (pl_differencesY p1)
                else
                  zck (0 ≤ p1 ∧ p1 < 16641) <|
                  some (pl_owners p1)
          else
            some (-1)
def f_X1_begin_L97 (pl_kinds : Int → Int) (pl_differencesX : Int → Int) (pl_differencesY : Int → Int) (pl_owners : Int → Int) (pl_size : Int) (ma_stitchesAhead : Int → Int) (ma_headCount : Int) (ma_late : Int) (ma_commandCount : Int) (ma_place : Int) (x4 : Int) (ma_broken : Int → Int) (ma_brokeAt : Int → Int) (ma_stitches : Int → Int) : Option ((Int × (Int → Int) × (Int → Int) × (Int → Int)) ⊕ (Int × (Int → Int) × (Int → Int) × (Int → Int))) :=
  zck (zR x4) <|
  if 4 ≤ x4 then
    some (.inr (x4, ma_broken, ma_brokeAt, ma_stitches))
  else
    zck (0 ≤ x4 ∧ x4 < 4) <|
    zlt (zup ma_broken x4 0) fun a5 =>
    zck (0 ≤ x4 ∧ x4 < 4) <|
    zlt (zup ma_brokeAt x4 0) fun a8 =>
    zck (0 ≤ x4 ∧ x4 < 4) <|
    zlt (zup ma_stitches x4 0) fun a11 =>
    some (.inl ((x4 + 1), a5, a8, a11))
def f_X1_begin_94 (pl_kinds : Int → Int) (pl_differencesX : Int → Int) (pl_differencesY : Int → Int) (pl_owners : Int → Int) (pl_size : Int) (ma_stitchesAhead : Int → Int) (ma_broken : Int → Int) (ma_brokeAt : Int → Int) (ma_stitches : Int → Int) (ma_headCount : Int) (ma_late : Int) (ma_commandCount : Int) (ma_place : Int) : Option ((Int → Int) × (Int → Int) × (Int → Int) × (Int → Int) × Int × Int × Int × Int) :=
  zb4 (zlp (fun z => f_X1_begin_L97 pl_kinds pl_differencesX pl_differencesY pl_owners pl_size ma_stitchesAhead ma_headCount ma_late ma_commandCount ma_place z.1 z.2.1 z.2.2.1 z.2.2.2) zFU (0, ma_broken, ma_brokeAt, ma_stitches)) fun w13 w14 w15 w16 =>
  some (ma_stitchesAhead, w14, w15, w16, ma_headCount, ma_late, ma_commandCount, ma_place)
def f_X1_begin_L23_59 (pl_kinds : Int → Int) (pl_differencesX : Int → Int) (pl_differencesY : Int → Int) (pl_owners : Int → Int) (pl_size : Int) (ma_stitchesAhead : Int → Int) (ma_broken : Int → Int) (ma_brokeAt : Int → Int) (ma_stitches : Int → Int) (ma_headCount : Int) (ma_late : Int) (ma_commandCount : Int) (ma_place : Int) (x4 : Int) (s0 : Int) : Option ((Int × (Int → Int) × Int) ⊕ (Int × (Int → Int) × Int)) :=
  zck (0 ≤ x4 ∧ x4 < 16642) <|
  zck (0 ≤ (x4 + 1) ∧ (x4 + 1) < 16642) <|
  zlt (zup ma_stitchesAhead (x4 + 1) ((ma_stitchesAhead x4) + s0)) fun a21 =>
  zlt ((x4 + 1)) fun v22 =>
  some (.inl ((x4 + 1), a21, v22))
def f_X1_begin_L23 (pl_kinds : Int → Int) (pl_differencesX : Int → Int) (pl_differencesY : Int → Int) (pl_owners : Int → Int) (pl_size : Int) (ma_broken : Int → Int) (ma_brokeAt : Int → Int) (ma_stitches : Int → Int) (ma_headCount : Int) (ma_late : Int) (ma_place : Int) (x4 : Int) (ma_stitchesAhead : Int → Int) (ma_commandCount : Int) : Option ((Int × (Int → Int) × Int) ⊕ (Int × (Int → Int) × Int)) :=
  zck (zR x4 ∧ zR pl_size) <|
  if pl_size ≤ x4 then
    some (.inr (x4, ma_stitchesAhead, ma_commandCount))
  else
    zck (zR (x4 + 1)) <|
    if 16642 ≤ (x4 + 1) then
      some (.inr (x4, ma_stitchesAhead, ma_commandCount))
    else
      zb1 (f_X3_told pl_kinds pl_differencesX pl_differencesY pl_owners x4 0) fun r28 =>
      zck (zR r28) <|
      if r28 = 0 then
        f_X1_begin_L23_59 pl_kinds pl_differencesX pl_differencesY pl_owners pl_size ma_stitchesAhead ma_broken ma_brokeAt ma_stitches ma_headCount ma_late ma_commandCount ma_place x4 1
      else
        f_X1_begin_L23_59 pl_kinds pl_differencesX pl_differencesY pl_owners pl_size ma_stitchesAhead ma_broken ma_brokeAt ma_stitches ma_headCount ma_late ma_commandCount ma_place x4 0
def f_X1_begin (pl_kinds : Int → Int) (pl_differencesX : Int → Int) (pl_differencesY : Int → Int) (pl_owners : Int → Int) (pl_size : Int) (ma_stitchesAhead : Int → Int) (ma_broken : Int → Int) (ma_brokeAt : Int → Int) (ma_stitches : Int → Int) (ma_headCount : Int) (ma_late : Int) (ma_commandCount : Int) (ma_place : Int) (p2 : Int) (p3 : Int) : Option ((Int → Int) × (Int → Int) × (Int → Int) × (Int → Int) × Int × Int × Int × Int) :=
  zb3 (zlp (fun z => f_X1_begin_L23 pl_kinds pl_differencesX pl_differencesY pl_owners pl_size ma_broken ma_brokeAt ma_stitches p2 p3 0 z.1 z.2.1 z.2.2) zFU (0, ma_stitchesAhead, 0)) fun w39 w40 w41 =>
  f_X1_begin_94 pl_kinds pl_differencesX pl_differencesY pl_owners pl_size w40 ma_broken ma_brokeAt ma_stitches p2 p3 w41 0
def f_X1_stitchesBetween (ma_stitchesAhead : Int → Int) (p1 : Int) (p2 : Int) : Option (Int) :=
  zck (zR p1) <|
  if p1 < 0 then
    some 0
  else
    zck (zR p2 ∧ zR p1) <|
    if p2 < p1 then
      some 0
    else
      zck (zR p2) <|
      if p2 < 16642 then
        zck (0 ≤ p2 ∧ p2 < 16642) <|
        zck (0 ≤ p1 ∧ p1 < 16642) <|
        some ((ma_stitchesAhead p2) - (ma_stitchesAhead p1))
      else
        some 0
def f_X1_isSeen_46 (ma_broken : Int → Int) (ma_brokeAt : Int → Int) (ma_headCount : Int) (ma_late : Int) (ma_commandCount : Int) (ma_place : Int) : Option (Int) :=
  some 1
def f_X1_isSeen (ma_broken : Int → Int) (ma_brokeAt : Int → Int) (ma_headCount : Int) (ma_late : Int) (ma_commandCount : Int) (ma_place : Int) (p1 : Int) : Option (Int) :=
  zb1 (f_X1_has ma_headCount p1) fun r1 =>
  zck (zR r1) <|
  if r1 = 0 then
    some 0
  else
    zck (0 ≤ p1 ∧ p1 < 4) <|
    zck (zR (ma_broken p1)) <|
    if (ma_broken p1) = 0 then
      some 0
    else
      zck (0 ≤ p1 ∧ p1 < 4) <|
      zck (zR (ma_place - (ma_brokeAt p1)) ∧ zR ma_late) <|
      if ma_late ≤ (ma_place - (ma_brokeAt p1)) then
        f_X1_isSeen_46 ma_broken ma_brokeAt ma_headCount ma_late ma_commandCount ma_place
      else
        zck (zR ma_place ∧ zR ma_commandCount) <|
        if ma_place < ma_commandCount then
          some 0
        else
          f_X1_isSeen_46 ma_broken ma_brokeAt ma_headCount ma_late ma_commandCount ma_place
def f_X1_stands_L2 (ma_broken : Int → Int) (ma_brokeAt : Int → Int) (ma_headCount : Int) (ma_late : Int) (ma_commandCount : Int) (ma_place : Int) (x1 : Int) : Option ((Int) ⊕ ((Int) ⊕ (Int))) :=
  zck (zR x1 ∧ zR ma_headCount) <|
  if ma_headCount ≤ x1 then
    some (.inr (.inl x1))
  else
    zb1 (f_X1_isSeen ma_broken ma_brokeAt ma_headCount ma_late ma_commandCount ma_place x1) fun r3 =>
    zck (zR r3) <|
    if r3 = 0 then
      some (.inl (x1 + 1))
    else
      some (.inr (.inr 1))
def f_X1_stands (ma_broken : Int → Int) (ma_brokeAt : Int → Int) (ma_headCount : Int) (ma_late : Int) (ma_commandCount : Int) (ma_place : Int) : Option (Int) :=
  zbs (zlp (fun z => f_X1_stands_L2 ma_broken ma_brokeAt ma_headCount ma_late ma_commandCount ma_place z) zFU 0) (fun w10 =>
    some 0
  ) (fun b => some b)
def f_X1_step_68 (ma_stitchesAhead : Int → Int) (ma_broken : Int → Int) (ma_stitches : Int → Int) (ma_headCount : Int) (ma_place : Int) : Option ((Int → Int) × Int) :=
  zlt ((ma_place + 1)) fun v1 =>
  some (ma_stitches, v1)
def f_X1_step_L17 (ma_stitchesAhead : Int → Int) (ma_broken : Int → Int) (ma_headCount : Int) (ma_place : Int) (x1 : Int) (x2 : Int) (ma_stitches : Int → Int) : Option ((Int × (Int → Int)) ⊕ (Int × (Int → Int))) :=
  zck (zR x2 ∧ zR ma_headCount) <|
  if ma_headCount ≤ x2 then
    some (.inr (x2, ma_stitches))
  else
    zck (zR x2) <|
    if 4 ≤ x2 then
      some (.inr (x2, ma_stitches))
    else
      zck (zR x2) <|
      if 4 ≤ x2 then
        some (.inr (x2, ma_stitches))
      else
        zck (0 ≤ x2 ∧ x2 < 4) <|
        zck (zR (ma_broken x2)) <|
        if (ma_broken x2) = 0 then
          zck (0 ≤ x2 ∧ x2 < 4) <|
          zck (0 ≤ x2 ∧ x2 < 4) <|
          zlt (zup ma_stitches x2 ((ma_stitches x2) + x1)) fun a15 =>
          some (.inl ((x2 + 1), a15))
        else
          some (.inl ((x2 + 1), ma_stitches))
def f_X1_step (ma_stitchesAhead : Int → Int) (ma_broken : Int → Int) (ma_stitches : Int → Int) (ma_headCount : Int) (ma_place : Int) : Option ((Int → Int) × Int) :=
  zb1 (f_X1_stitchesBetween ma_stitchesAhead ma_place (ma_place + 1)) fun r16 =>
  zb2 (zlp (fun z => f_X1_step_L17 ma_stitchesAhead ma_broken ma_headCount ma_place r16 z.1 z.2) zFU (0, ma_stitches)) fun w21 w22 =>
  f_X1_step_68 ma_stitchesAhead ma_broken w22 ma_headCount ma_place
def f_X1_advance_L2 (ma_stitchesAhead : Int → Int) (ma_broken : Int → Int) (ma_brokeAt : Int → Int) (ma_headCount : Int) (ma_late : Int) (ma_commandCount : Int) (x1 : Int) (x2 : Int) (ma_stitches : Int → Int) (ma_place : Int) : Option ((Int × (Int → Int) × Int) ⊕ (Int × (Int → Int) × Int)) :=
  zck (zR x2 ∧ zR x1) <|
  if x1 ≤ x2 then
    some (.inr (x2, ma_stitches, ma_place))
  else
    zck (zR ma_place ∧ zR ma_commandCount) <|
    if ma_commandCount ≤ ma_place then
      some (.inr (x2, ma_stitches, ma_place))
    else
      zb1 (f_X1_stands ma_broken ma_brokeAt ma_headCount ma_late ma_commandCount ma_place) fun r5 =>
      zck (zR r5) <|
      if r5 = 0 then
        zb2 (f_X1_step ma_stitchesAhead ma_broken ma_stitches ma_headCount ma_place) fun a11 u12 =>
        some (.inl ((x2 + 1), a11, u12))
      else
        some (.inr (x2, ma_stitches, ma_place))
def f_X1_advance (ma_stitchesAhead : Int → Int) (ma_broken : Int → Int) (ma_brokeAt : Int → Int) (ma_stitches : Int → Int) (ma_headCount : Int) (ma_late : Int) (ma_commandCount : Int) (ma_place : Int) (p1 : Int) : Option (Int × (Int → Int) × Int) :=
  zb3 (zlp (fun z => f_X1_advance_L2 ma_stitchesAhead ma_broken ma_brokeAt ma_headCount ma_late ma_commandCount p1 z.1 z.2.1 z.2.2) zFU (0, ma_stitches, ma_place)) fun w16 w17 w18 =>
  some (w16, w17, w18)
def f_X1_tear (ma_broken : Int → Int) (ma_brokeAt : Int → Int) (ma_headCount : Int) (ma_place : Int) (p1 : Int) : Option ((Int → Int) × (Int → Int)) :=
  zb1 (f_X1_has ma_headCount p1) fun r1 =>
  zck (zR r1) <|
  if r1 = 0 then
    some (ma_broken, ma_brokeAt)
  else
    zck (0 ≤ p1 ∧ p1 < 4) <|
    zlt (zup ma_broken p1 1) fun a9 =>
    zck (0 ≤ p1 ∧ p1 < 4) <|
    zlt (zup ma_brokeAt p1 ma_place) fun a12 =>
    some (a9, a12)
def f_X1_repair (ma_stitchesAhead : Int → Int) (ma_broken : Int → Int) (ma_brokeAt : Int → Int) (ma_stitches : Int → Int) (ma_headCount : Int) (ma_place : Int) (p1 : Int) : Option (Int × (Int → Int) × (Int → Int)) :=
  zb1 (f_X1_has ma_headCount p1) fun r1 =>
  zck (zR r1) <|
  if r1 = 0 then
    some (0, ma_broken, ma_stitches)
  else
    zck (0 ≤ p1 ∧ p1 < 4) <|
    zck (zR ((ma_brokeAt p1) - 3)) <|
    zb1 (f_X1_stitchesBetween ma_stitchesAhead (max 0 ((ma_brokeAt p1) - 3)) ma_place) fun r9 =>
    zck (0 ≤ p1 ∧ p1 < 4) <|
    zlt (zup ma_broken p1 0) fun a15 =>
    zck (0 ≤ p1 ∧ p1 < 4) <|
    zck (0 ≤ p1 ∧ p1 < 4) <|
    zlt (zup ma_stitches p1 ((ma_stitches p1) + r9)) fun a19 =>
    some (r9, a15, a19)
def f_X2_has (pa_size : Int) (p1 : Int) : Option (Int) :=
  zck (zR p1) <|
  if p1 < 0 then
    some 0
  else
    zck (zR p1 ∧ zR pa_size) <|
    if pa_size ≤ p1 then
      some 0
    else
      zck (zR p1) <|
      if 49924 ≤ p1 then
        some 0
      else
        some 1
def f_X2_limit (pa_format : Int) : Option (Int) :=
  zck (zR pa_format) <|
  if pa_format = 0 then
    some 12
  else
    some 121
def f_X2_bytesOfCommand (pa_format : Int) : Option (Int) :=
  zck (zR pa_format) <|
  if pa_format = 0 then
    some 2
  else
    some 3
def f_X2_putByte (pa_bytes : Int → Int) (pa_size : Int) (p1 : Int) : Option ((Int → Int) × Int) :=
  zck (zR pa_size) <|
  if 49924 ≤ pa_size then
    some (pa_bytes, pa_size)
  else
    zck (0 ≤ pa_size ∧ pa_size < 49924) <|
    zlt (zup pa_bytes pa_size p1) fun a5 =>
    zlt ((pa_size + 1)) fun v6 =>
    some (a5, v6)
def f_X2_putCommand (pa_bytes : Int → Int) (pa_size : Int) (pa_format : Int) (p1 : Int) (p2 : Int) (p3 : Int) : Option ((Int → Int) × Int) :=
  zck (zR pa_format) <|
  if pa_format = 0 then
    zb2 (f_X2_putByte pa_bytes pa_size (((32 * p1) + p2) + 16)) fun a15 u16 =>
    zb2 (f_X2_putByte a15 u16 (p3 + 16)) fun a19 u20 =>
    some (a19, u20)
  else
    zb2 (f_X2_putByte pa_bytes pa_size p1) fun a3 u4 =>
    zb2 (f_X2_putByte a3 u4 (p2 + 128)) fun a7 u8 =>
    zb2 (f_X2_putByte a7 u8 (p3 + 128)) fun a11 u12 =>
    some (a11, u12)
def f_X2_putWhole_L36 (pa_format : Int) (x2 : Int) (x3 : Int) (x4 : Int) (x5 : Int) (x6 : Int) (x7 : Int) (pa_bytes : Int → Int) (pa_size : Int) : Option ((Int × Int × Int × (Int → Int) × Int) ⊕ (Int × Int × Int × (Int → Int) × Int)) :=
  zck (zR x7 ∧ zR x4) <|
  if x4 < x7 then
    some (.inr (x5, x6, x7, pa_bytes, pa_size))
  else
    zb1 (f_X6_placeOf 0 x2 x7 x4) fun r3 =>
    zb1 (f_X6_placeOf 0 x3 x7 x4) fun r7 =>
    zb2 (f_X2_putCommand pa_bytes pa_size pa_format 1 (r3 - x5) (r7 - x6)) fun a11 u12 =>
    some (.inl (r3, r7, (x7 + 1), a11, u12))
def f_X2_putWhole (pa_bytes : Int → Int) (pa_size : Int) (pa_format : Int) (p1 : Int) (p2 : Int) (p3 : Int) : Option ((Int → Int) × Int) :=
  zck (zR p1) <|
  if p1 = 1 then
    zb1 (f_X6_greaterDifference p2 p3) fun r17 =>
    zb1 (f_X2_limit pa_format) fun r21 =>
    zb1 (f_X6_roundedUp r17 r21) fun r25 =>
    zb5 (zlp (fun z => f_X2_putWhole_L36 pa_format p2 p3 r25 z.1 z.2.1 z.2.2.1 z.2.2.2.1 z.2.2.2.2) zFU (0, 0, 1, pa_bytes, pa_size)) fun w30 w31 w32 w33 w34 =>
    some (w33, w34)
  else
    zb2 (f_X2_putCommand pa_bytes pa_size pa_format p1 p2 p3) fun a36 u37 =>
    some (a36, u37)
def f_X2_sumAhead_L4 (pa_bytes : Int → Int) (x1 : Int) (x2 : Int) (x3 : Int) : Option ((Int × Int) ⊕ (Int × Int)) :=
  zck (zR x3 ∧ zR x1) <|
  if x1 ≤ x3 then
    some (.inr (x2, x3))
  else
    zck (zR x3) <|
    if 49924 ≤ x3 then
      some (.inr (x2, x3))
    else
      zck (0 ≤ x3 ∧ x3 < 49924) <|
      zlt ((x2 + (pa_bytes x3))) fun v6 =>
      some (.inl (v6, (x3 + 1)))
def f_X2_sumAhead (pa_bytes : Int → Int) (p1 : Int) : Option (Int) :=
  zb2 (zlp (fun z => f_X2_sumAhead_L4 pa_bytes p1 z.1 z.2) zFU (0, 0)) fun w8 w9 =>
  zck (zR w8) <|
  some (Int.tmod w8 256)
def f_X2_take_L12 (pl_kinds : Int → Int) (pl_differencesX : Int → Int) (pl_differencesY : Int → Int) (pl_owners : Int → Int) (pl_size : Int) (pa_format : Int) (x3 : Int) (pa_bytes : Int → Int) (pa_size : Int) : Option ((Int × (Int → Int) × Int) ⊕ (Int × (Int → Int) × Int)) :=
  zck (zR x3 ∧ zR pl_size) <|
  if pl_size ≤ x3 then
    some (.inr (x3, pa_bytes, pa_size))
  else
    zb1 (f_X3_told pl_kinds pl_differencesX pl_differencesY pl_owners x3 0) fun r3 =>
    zb1 (f_X3_told pl_kinds pl_differencesX pl_differencesY pl_owners x3 1) fun r7 =>
    zb1 (f_X3_told pl_kinds pl_differencesX pl_differencesY pl_owners x3 2) fun r11 =>
    zb2 (f_X2_putWhole pa_bytes pa_size pa_format r3 r7 r11) fun a15 u16 =>
    some (.inl ((x3 + 1), a15, u16))
def f_X2_take (pl_kinds : Int → Int) (pl_differencesX : Int → Int) (pl_differencesY : Int → Int) (pl_owners : Int → Int) (pl_size : Int) (pa_bytes : Int → Int) (pa_size : Int) (pa_format : Int) (p2 : Int) : Option ((Int → Int) × Int × Int) :=
  zb3 (zlp (fun z => f_X2_take_L12 pl_kinds pl_differencesX pl_differencesY pl_owners pl_size p2 z.1 z.2.1 z.2.2) zFU (0, pa_bytes, 0)) fun w22 w23 w24 =>
  zb1 (f_X2_sumAhead w23 w24) fun r26 =>
  zb2 (f_X2_putByte w23 w24 r26) fun a30 u31 =>
  some (a30, u31, p2)
def f_X2_kindAt (pa_bytes : Int → Int) (pa_size : Int) (pa_format : Int) (p1 : Int) : Option (Int) :=
  zb1 (f_X2_has pa_size p1) fun r1 =>
  zck (zR r1) <|
  if r1 = 0 then
    some 4
  else
    zck (zR pa_format) <|
    if pa_format = 0 then
      zck (0 ≤ p1 ∧ p1 < 49924) <|
      zck (zR (pa_bytes p1)) <|
      some (Int.tdiv (pa_bytes p1) 32)
    else
      zck (0 ≤ p1 ∧ p1 < 49924) <|
      some (pa_bytes p1)
def f_X2_differenceAt (pa_bytes : Int → Int) (pa_size : Int) (pa_format : Int) (p1 : Int) (p2 : Int) : Option (Int) :=
  zb1 (f_X2_has pa_size p1) fun r1 =>
  zck (zR r1) <|
  if r1 = 0 then
    some 0
  else
    zck (zR pa_format) <|
    if pa_format = 0 then
      zck (zR p2) <|
      if p2 = 0 then
        zck (0 ≤ p1 ∧ p1 < 49924) <|
        zck (zR (pa_bytes p1)) <|
        some ((Int.tmod (pa_bytes p1) 32) - 16)
      else
        zck (0 ≤ p1 ∧ p1 < 49924) <|
        some ((pa_bytes p1) - 16)
    else
      zck (zR p2) <|
      if p2 = 0 then
        some 0
      else
        zck (0 ≤ p1 ∧ p1 < 49924) <|
        some ((pa_bytes p1) - 128)
def f_X2_wrongWithin_L8 (pa_bytes : Int → Int) (pa_size : Int) (pa_format : Int) (x1 : Int) (x2 : Int) (x3 : Int) : Option ((Int) ⊕ ((Int) ⊕ (Int))) :=
  zb1 (f_X2_bytesOfCommand pa_format) fun r1 =>
  zck (zR x3 ∧ zR r1) <|
  if r1 ≤ x3 then
    some (.inr (.inl x3))
  else
    zlt ((x1 + x3)) fun v7 =>
    zb1 (f_X2_has pa_size v7) fun r8 =>
    zck (zR r8) <|
    if r8 = 0 then
      some (.inr (.inr pa_size))
    else
      zb1 (f_X2_differenceAt pa_bytes pa_size pa_format v7 x3) fun r14 =>
      zck (zR r14) <|
      zlt ((r14.natAbs : Int)) fun v19 =>
      zck (zR x2) <|
      if 4 < x2 then
        some (.inr (.inr v7))
      else
        zb1 (f_X2_limit pa_format) fun r22 =>
        zck (zR v19 ∧ zR r22) <|
        if r22 < v19 then
          some (.inr (.inr v7))
        else
          zck (zR x2) <|
          if x2 < 2 then
            some (.inl (x3 + 1))
          else
            zck (zR v19) <|
            if v19 = 0 then
              some (.inl (x3 + 1))
            else
              some (.inr (.inr v7))
def f_X2_wrongWithin (pa_bytes : Int → Int) (pa_size : Int) (pa_format : Int) (p1 : Int) : Option (Int) :=
  zb1 (f_X2_kindAt pa_bytes pa_size pa_format p1) fun r32 =>
  zbs (zlp (fun z => f_X2_wrongWithin_L8 pa_bytes pa_size pa_format p1 r32 z) zFU 0) (fun w37 =>
    some (-1)
  ) (fun b => some b)
def f_X2_wrongBehindEnd (pa_bytes : Int → Int) (pa_size : Int) (p1 : Int) : Option (Int) :=
  zb1 (f_X2_has pa_size p1) fun r1 =>
  zck (zR r1) <|
  if r1 = 0 then
    some pa_size
  else
    zck (0 ≤ p1 ∧ p1 < 49924) <|
    zb1 (f_X2_sumAhead pa_bytes p1) fun r8 =>
    zck (zR (pa_bytes p1) ∧ zR r8) <|
    if (pa_bytes p1) = r8 then
      zck (zR (p1 + 1) ∧ zR pa_size) <|
      if pa_size ≤ (p1 + 1) then
        some (-1)
      else
        some (p1 + 1)
    else
      some p1
def f_X2_inspect_L20 (pa_bytes : Int → Int) (pa_size : Int) (pa_format : Int) (x1 : Int) (x2 : Int) (pa_faultPlace : Int) (pa_stitchesRead : Int) : Option ((Int × Int × Int) ⊕ ((Int × Int × Int) ⊕ (Int × Int))) :=
  zck (zR x2 ∧ zR pa_size) <|
  if pa_size ≤ x2 then
    some (.inr (.inl (x2, pa_faultPlace, pa_stitchesRead)))
  else
    zlt ((x2 * x1)) fun v3 =>
    zb1 (f_X2_wrongWithin pa_bytes pa_size pa_format v3) fun r4 =>
    zck (zR r4) <|
    if r4 = (-1) then
      zb1 (f_X2_kindAt pa_bytes pa_size pa_format v3) fun r10 =>
      zck (zR r10) <|
      if r10 = 0 then
        zlt ((pa_stitchesRead + 1)) fun v23 =>
        some (.inl ((x2 + 1), pa_faultPlace, v23))
      else
        zck (zR r10) <|
        if r10 = 4 then
          zb1 (f_X2_wrongBehindEnd pa_bytes pa_size (v3 + x1)) fun r18 =>
          some (.inr (.inr (r18, pa_stitchesRead)))
        else
          some (.inl ((x2 + 1), pa_faultPlace, pa_stitchesRead))
    else
      some (.inr (.inr (r4, pa_stitchesRead)))
def f_X2_inspect (pa_bytes : Int → Int) (pa_size : Int) (pa_format : Int) (pa_faultPlace : Int) (pa_stitchesRead : Int) : Option (Int × Int) :=
  zb1 (f_X2_bytesOfCommand pa_format) fun r26 =>
  zbs (zlp (fun z => f_X2_inspect_L20 pa_bytes pa_size pa_format r26 z.1 z.2.1 z.2.2) zFU (0, pa_size, 0)) (fun (w33, w34, w35) =>
    some (w34, w35)
  ) (fun b => some b)
def f_X3_begin_L51 (pl_kindCounts : Int → Int) (pl_size : Int) (pl_seconds : UInt32) (pl_needleX : Int) (pl_needleY : Int) (pl_colour : Int) (x1 : Int) (pl_threads : Int → Int) : Option ((Int × (Int → Int)) ⊕ (Int × (Int → Int))) :=
  zck (zR x1) <|
  if 6 ≤ x1 then
    some (.inr (x1, pl_threads))
  else
    zck (0 ≤ x1 ∧ x1 < 6) <|
    zlt (zup pl_threads x1 0) fun a5 =>
    some (.inl ((x1 + 1), a5))
def f_X3_begin_L27 (pl_threads : Int → Int) (pl_size : Int) (pl_seconds : UInt32) (pl_needleX : Int) (pl_needleY : Int) (pl_colour : Int) (x1 : Int) (pl_kindCounts : Int → Int) : Option ((Int × (Int → Int)) ⊕ (Int × (Int → Int))) :=
  zck (zR x1) <|
  if 5 ≤ x1 then
    some (.inr (x1, pl_kindCounts))
  else
    zck (0 ≤ x1 ∧ x1 < 5) <|
    zlt (zup pl_kindCounts x1 0) fun a10 =>
    some (.inl ((x1 + 1), a10))
def f_X3_begin (pl_kindCounts : Int → Int) (pl_threads : Int → Int) (pl_size : Int) (pl_seconds : UInt32) (pl_needleX : Int) (pl_needleY : Int) (pl_colour : Int) : Option ((Int → Int) × (Int → Int) × Int × UInt32 × Int × Int × Int) :=
  zb2 (zlp (fun z => f_X3_begin_L27 pl_threads 0 0 0 0 (-1) z.1 z.2) zFU (0, pl_kindCounts)) fun w17 w18 =>
  zb2 (zlp (fun z => f_X3_begin_L51 w18 0 0 0 0 (-1) z.1 z.2) zFU (0, pl_threads)) fun w21 w22 =>
  some (w18, w22, 0, 0, 0, 0, (-1))
def f_X4_firstX (pt_xs : Int → Int) (pt_size : Int) : Option (Int) :=
  zck (zR pt_size) <|
  if pt_size ≤ 0 then
    some 0
  else
    some (pt_xs 0)
def f_X4_firstY (pt_ys : Int → Int) (pt_size : Int) : Option (Int) :=
  zck (zR pt_size) <|
  if pt_size ≤ 0 then
    some 0
  else
    some (pt_ys 0)
def f_X3_squareToFirst (pt_xs : Int → Int) (pt_ys : Int → Int) (pt_size : Int) (pl_needleX : Int) (pl_needleY : Int) : Option (Int) :=
  zb1 (f_X4_firstX pt_xs pt_size) fun r1 =>
  zlt ((r1 - pl_needleX)) fun v5 =>
  zb1 (f_X4_firstY pt_ys pt_size) fun r6 =>
  zlt ((r6 - pl_needleY)) fun v10 =>
  some ((v5 * v5) + (v10 * v10))
def f_X3_secondsOf (p0 : Int) (p1 : Int) : Option (UInt32) :=
  zck (zR p0) <|
  if p0 = 0 then
    zck (zR p1) <|
    if 4 < p1 then
      some 1036831949
    else
      some 1033476506
  else
    if p0 = 1 then
      some 1045220557
    else
      if p0 = 2 then
        some 1086324736
      else
        if p0 = 3 then
          some 1090519040
        else
          some 0
def f_X3_put (pl_kinds : Int → Int) (pl_differencesX : Int → Int) (pl_differencesY : Int → Int) (pl_owners : Int → Int) (pl_kindCounts : Int → Int) (pl_threads : Int → Int) (pl_size : Int) (pl_seconds : UInt32) (pl_colour : Int) (p1 : Int) (p2 : Int) (p3 : Int) (p4 : Int) : Option ((Int → Int) × (Int → Int) × (Int → Int) × (Int → Int) × (Int → Int) × (Int → Int) × Int × UInt32) :=
  zck (zR pl_size) <|
  if 16641 ≤ pl_size then
    some (pl_kinds, pl_differencesX, pl_differencesY, pl_owners, pl_kindCounts, pl_threads, pl_size, pl_seconds)
  else
    zck (zR pl_size) <|
    if 16641 ≤ pl_size then
      some (pl_kinds, pl_differencesX, pl_differencesY, pl_owners, pl_kindCounts, pl_threads, pl_size, pl_seconds)
    else
      zck (zR pl_size) <|
      if 16641 ≤ pl_size then
        some (pl_kinds, pl_differencesX, pl_differencesY, pl_owners, pl_kindCounts, pl_threads, pl_size, pl_seconds)
      else
        zck (zR pl_size) <|
        if 16641 ≤ pl_size then
          some (pl_kinds, pl_differencesX, pl_differencesY, pl_owners, pl_kindCounts, pl_threads, pl_size, pl_seconds)
        else
          zck (zR p1) <|
          if p1 < 0 then
            some (pl_kinds, pl_differencesX, pl_differencesY, pl_owners, pl_kindCounts, pl_threads, pl_size, pl_seconds)
          else
            zck (zR p1) <|
            if p1 < 5 then
              zck (0 ≤ pl_size ∧ pl_size < 16641) <|
              zlt (zup pl_kinds pl_size p1) fun a15 =>
              zck (0 ≤ pl_size ∧ pl_size < 16641) <|
              zlt (zup pl_differencesX pl_size p2) fun a18 =>
              zck (0 ≤ pl_size ∧ pl_size < 16641) <|
              zlt (zup pl_differencesY pl_size p3) fun a21 =>
              zck (0 ≤ pl_size ∧ pl_size < 16641) <|
              zlt (zup pl_owners pl_size p4) fun a24 =>
              zlt ((pl_size + 1)) fun v25 =>
              zck (0 ≤ p1 ∧ p1 < 5) <|
              zck (0 ≤ p1 ∧ p1 < 5) <|
              zlt (zup pl_kindCounts p1 ((pl_kindCounts p1) + 1)) fun a30 =>
              zb1 (f_X6_greaterDifference p2 p3) fun r31 =>
              zb1 (f_X3_secondsOf p1 r31) fun r35 =>
              zck (zn32 (FP.fadd pl_seconds r35)) <|
              zlt ((FP.fadd pl_seconds r35)) fun v40 =>
              zck (zR p1) <|
              if p1 = 0 then
                zck (zR pl_colour) <|
                if pl_colour < 0 then
                  some (a15, a18, a21, a24, a30, pl_threads, v25, v40)
                else
                  zck (zR pl_colour) <|
                  if 6 ≤ pl_colour then
                    some (a15, a18, a21, a24, a30, pl_threads, v25, v40)
                  else
                    zlt (((p2 * p2) + (p3 * p3))) fun v48 =>
                    zck (0 ≤ pl_colour ∧ pl_colour < 6) <|
                    zb1 (f_X6_wholeRoot (100 * v48)) fun r50 =>
                    zck (0 ≤ pl_colour ∧ pl_colour < 6) <|
                    zlt (zup pl_threads pl_colour ((pl_threads pl_colour) + r50)) fun a56 =>
                    some (a15, a18, a21, a24, a30, a56, v25, v40)
              else
                some (a15, a18, a21, a24, a30, pl_threads, v25, v40)
            else
              some (pl_kinds, pl_differencesX, pl_differencesY, pl_owners, pl_kindCounts, pl_threads, pl_size, pl_seconds)
def f_X3_goTo_60 (pl_kinds : Int → Int) (pl_differencesX : Int → Int) (pl_differencesY : Int → Int) (pl_owners : Int → Int) (pl_kindCounts : Int → Int) (pl_threads : Int → Int) (pl_size : Int) (pl_seconds : UInt32) (pl_needleX : Int) (pl_needleY : Int) (pl_colour : Int) (x1 : Int) (x2 : Int) : Option ((Int → Int) × (Int → Int) × (Int → Int) × (Int → Int) × (Int → Int) × (Int → Int) × Int × UInt32 × Int × Int) :=
  some (pl_kinds, pl_differencesX, pl_differencesY, pl_owners, pl_kindCounts, pl_threads, pl_size, pl_seconds, x1, x2)
def f_X3_goTo_47 (pl_kinds : Int → Int) (pl_differencesX : Int → Int) (pl_differencesY : Int → Int) (pl_owners : Int → Int) (pl_kindCounts : Int → Int) (pl_threads : Int → Int) (pl_size : Int) (pl_seconds : UInt32) (pl_needleX : Int) (pl_needleY : Int) (pl_colour : Int) (x1 : Int) (x2 : Int) (x3 : Int) (x5 : Int) (x6 : Int) (s0 : Int) : Option ((Int → Int) × (Int → Int) × (Int → Int) × (Int → Int) × (Int → Int) × (Int → Int) × Int × UInt32 × Int × Int) :=
  zb8 (f_X3_put pl_kinds pl_differencesX pl_differencesY pl_owners pl_kindCounts pl_threads pl_size pl_seconds pl_colour s0 x5 x6 x3) fun a3 a4 a5 a6 a7 a8 u9 u10 =>
  f_X3_goTo_60 a3 a4 a5 a6 a7 a8 u9 u10 pl_needleX pl_needleY pl_colour x1 x2
def f_X3_goTo_46 (pl_kinds : Int → Int) (pl_differencesX : Int → Int) (pl_differencesY : Int → Int) (pl_owners : Int → Int) (pl_kindCounts : Int → Int) (pl_threads : Int → Int) (pl_size : Int) (pl_seconds : UInt32) (pl_needleX : Int) (pl_needleY : Int) (pl_colour : Int) (x1 : Int) (x2 : Int) (x3 : Int) (x5 : Int) (x6 : Int) : Option ((Int → Int) × (Int → Int) × (Int → Int) × (Int → Int) × (Int → Int) × (Int → Int) × Int × UInt32 × Int × Int) :=
  f_X3_goTo_47 pl_kinds pl_differencesX pl_differencesY pl_owners pl_kindCounts pl_threads pl_size pl_seconds pl_needleX pl_needleY pl_colour x1 x2 x3 x5 x6 1
def f_X3_goTo (pl_kinds : Int → Int) (pl_differencesX : Int → Int) (pl_differencesY : Int → Int) (pl_owners : Int → Int) (pl_kindCounts : Int → Int) (pl_threads : Int → Int) (pl_size : Int) (pl_seconds : UInt32) (pl_needleX : Int) (pl_needleY : Int) (pl_colour : Int) (p1 : Int) (p2 : Int) (p3 : Int) (p4 : Int) : Option ((Int → Int) × (Int → Int) × (Int → Int) × (Int → Int) × (Int → Int) × (Int → Int) × Int × UInt32 × Int × Int) :=
  zlt ((p1 - pl_needleX)) fun v13 =>
  zlt ((p2 - pl_needleY)) fun v14 =>
  zb1 (f_X6_greaterDifference v13 v14) fun r15 =>
  zck (zR r15) <|
  if r15 = 0 then
    f_X3_goTo_60 pl_kinds pl_differencesX pl_differencesY pl_owners pl_kindCounts pl_threads pl_size pl_seconds pl_needleX pl_needleY pl_colour p1 p2
  else
    zck (zR p4) <|
    if p4 = 0 then
      f_X3_goTo_46 pl_kinds pl_differencesX pl_differencesY pl_owners pl_kindCounts pl_threads pl_size pl_seconds pl_needleX pl_needleY pl_colour p1 p2 p3 v13 v14
    else
      zck (zR r15) <|
      if 12 < r15 then
        f_X3_goTo_46 pl_kinds pl_differencesX pl_differencesY pl_owners pl_kindCounts pl_threads pl_size pl_seconds pl_needleX pl_needleY pl_colour p1 p2 p3 v13 v14
      else
        f_X3_goTo_47 pl_kinds pl_differencesX pl_differencesY pl_owners pl_kindCounts pl_threads pl_size pl_seconds pl_needleX pl_needleY pl_colour p1 p2 p3 v13 v14 0
def f_X3_sewField_L80 (fd_colour : Int) (pt_xs : Int → Int) (pt_ys : Int → Int) (pt_size : Int) (pl_colour : Int) (x2 : Int) (x5 : Int) (pl_kinds : Int → Int) (pl_differencesX : Int → Int) (pl_differencesY : Int → Int) (pl_owners : Int → Int) (pl_kindCounts : Int → Int) (pl_threads : Int → Int) (pl_size : Int) (pl_seconds : UInt32) (pl_needleX : Int) (pl_needleY : Int) : Option ((Int × (Int → Int) × (Int → Int) × (Int → Int) × (Int → Int) × (Int → Int) × (Int → Int) × Int × UInt32 × Int × Int) ⊕ (Int × (Int → Int) × (Int → Int) × (Int → Int) × (Int → Int) × (Int → Int) × (Int → Int) × Int × UInt32 × Int × Int)) :=
  zck (zR x5 ∧ zR pt_size) <|
  if pt_size ≤ x5 then
    some (.inr (x5, pl_kinds, pl_differencesX, pl_differencesY, pl_owners, pl_kindCounts, pl_threads, pl_size, pl_seconds, pl_needleX, pl_needleY))
  else
    zck (zR x5) <|
    if 2078 ≤ x5 then
      some (.inr (x5, pl_kinds, pl_differencesX, pl_differencesY, pl_owners, pl_kindCounts, pl_threads, pl_size, pl_seconds, pl_needleX, pl_needleY))
    else
      zck (zR x5) <|
      if 2078 ≤ x5 then
        some (.inr (x5, pl_kinds, pl_differencesX, pl_differencesY, pl_owners, pl_kindCounts, pl_threads, pl_size, pl_seconds, pl_needleX, pl_needleY))
      else
        zck (0 ≤ x5 ∧ x5 < 2078) <|
        zck (0 ≤ x5 ∧ x5 < 2078) <|
        zb10 (f_X3_goTo pl_kinds pl_differencesX pl_differencesY pl_owners pl_kindCounts pl_threads pl_size pl_seconds pl_needleX pl_needleY pl_colour (pt_xs x5) (pt_ys x5) x2 1) fun a9 a10 a11 a12 a13 a14 u15 u16 u17 u18 =>
        some (.inl ((x5 + 1), a9, a10, a11, a12, a13, a14, u15, u16, u17, u18))
def f_X3_sewField_61 (fd_colour : Int) (pt_xs : Int → Int) (pt_ys : Int → Int) (pt_size : Int) (pl_kinds : Int → Int) (pl_differencesX : Int → Int) (pl_differencesY : Int → Int) (pl_owners : Int → Int) (pl_kindCounts : Int → Int) (pl_threads : Int → Int) (pl_size : Int) (pl_seconds : UInt32) (pl_needleX : Int) (pl_needleY : Int) (pl_colour : Int) (x2 : Int) : Option ((Int → Int) × (Int → Int) × (Int → Int) × (Int → Int) × (Int → Int) × (Int → Int) × Int × UInt32 × Int × Int × Int) :=
  zb1 (f_X4_firstX pt_xs pt_size) fun r21 =>
  zb1 (f_X4_firstY pt_ys pt_size) fun r25 =>
  zb10 (f_X3_goTo pl_kinds pl_differencesX pl_differencesY pl_owners pl_kindCounts pl_threads pl_size pl_seconds pl_needleX pl_needleY pl_colour r21 r25 x2 0) fun a29 a30 a31 a32 a33 a34 u35 u36 u37 u38 =>
  zb11 (zlp (fun z => f_X3_sewField_L80 fd_colour pt_xs pt_ys pt_size pl_colour x2 z.1 z.2.1 z.2.2.1 z.2.2.2.1 z.2.2.2.2.1 z.2.2.2.2.2.1 z.2.2.2.2.2.2.1 z.2.2.2.2.2.2.2.1 z.2.2.2.2.2.2.2.2.1 z.2.2.2.2.2.2.2.2.2.1 z.2.2.2.2.2.2.2.2.2.2) zFU (1, a29, a30, a31, a32, a33, a34, u35, u36, u37, u38)) fun w42 w43 w44 w45 w46 w47 w48 w49 w50 w51 w52 =>
  some (w43, w44, w45, w46, w47, w48, w49, w50, w51, w52, pl_colour)
def f_X3_sewField_33 (fd_colour : Int) (pt_xs : Int → Int) (pt_ys : Int → Int) (pt_size : Int) (pl_kinds : Int → Int) (pl_differencesX : Int → Int) (pl_differencesY : Int → Int) (pl_owners : Int → Int) (pl_kindCounts : Int → Int) (pl_threads : Int → Int) (pl_size : Int) (pl_seconds : UInt32) (pl_needleX : Int) (pl_needleY : Int) (pl_colour : Int) (x2 : Int) (x3 : Int) : Option ((Int → Int) × (Int → Int) × (Int → Int) × (Int → Int) × (Int → Int) × (Int → Int) × Int × UInt32 × Int × Int × Int) :=
  zb1 (f_X3_squareToFirst pt_xs pt_ys pt_size pl_needleX pl_needleY) fun r55 =>
  zck (zR r55 ∧ zR (x3 * x3)) <|
  if r55 ≤ (x3 * x3) then
    f_X3_sewField_61 fd_colour pt_xs pt_ys pt_size pl_kinds pl_differencesX pl_differencesY pl_owners pl_kindCounts pl_threads pl_size pl_seconds pl_needleX pl_needleY fd_colour x2
  else
    zb8 (f_X3_put pl_kinds pl_differencesX pl_differencesY pl_owners pl_kindCounts pl_threads pl_size pl_seconds fd_colour 2 0 0 (-1)) fun a61 a62 a63 a64 a65 a66 u67 u68 =>
    f_X3_sewField_61 fd_colour pt_xs pt_ys pt_size a61 a62 a63 a64 a65 a66 u67 u68 pl_needleX pl_needleY fd_colour x2
def f_X3_sewField (fd_colour : Int) (pt_xs : Int → Int) (pt_ys : Int → Int) (pt_size : Int) (pl_kinds : Int → Int) (pl_differencesX : Int → Int) (pl_differencesY : Int → Int) (pl_owners : Int → Int) (pl_kindCounts : Int → Int) (pl_threads : Int → Int) (pl_size : Int) (pl_seconds : UInt32) (pl_needleX : Int) (pl_needleY : Int) (pl_colour : Int) (p2 : Int) (p3 : Int) : Option ((Int → Int) × (Int → Int) × (Int → Int) × (Int → Int) × (Int → Int) × (Int → Int) × Int × UInt32 × Int × Int × Int) :=
  zck (zR pl_colour) <|
  if pl_colour = (-1) then
    f_X3_sewField_33 fd_colour pt_xs pt_ys pt_size pl_kinds pl_differencesX pl_differencesY pl_owners pl_kindCounts pl_threads pl_size pl_seconds pl_needleX pl_needleY pl_colour p2 p3
  else
    zck (zR pl_colour ∧ zR fd_colour) <|
    if pl_colour = fd_colour then
      f_X3_sewField_33 fd_colour pt_xs pt_ys pt_size pl_kinds pl_differencesX pl_differencesY pl_owners pl_kindCounts pl_threads pl_size pl_seconds pl_needleX pl_needleY pl_colour p2 p3
    else
      zb8 (f_X3_put pl_kinds pl_differencesX pl_differencesY pl_owners pl_kindCounts pl_threads pl_size pl_seconds pl_colour 3 0 0 (-1)) fun a75 a76 a77 a78 a79 a80 u81 u82 =>
      f_X3_sewField_33 fd_colour pt_xs pt_ys pt_size a75 a76 a77 a78 a79 a80 u81 u82 pl_needleX pl_needleY pl_colour p2 p3
def f_X5_touch (ra_cells : Int → Int) (ra_cellCount : Int) (p1 : Int) (p2 : Int) : Option ((Int → Int) × Int) :=
  zb1 (f_X6_isWithin p1 0 31) fun r1 =>
  zck (zR r1) <|
  if r1 = 0 then
    some (ra_cells, ra_cellCount)
  else
    zb1 (f_X6_isWithin p2 0 31) fun r7 =>
    zck (zR r7) <|
    if r7 = 0 then
      some (ra_cells, ra_cellCount)
    else
      zlt (((p2 * 32) + p1)) fun v13 =>
      zck (zR v13) <|
      if 1024 ≤ v13 then
        some (ra_cells, ra_cellCount)
      else
        zck (0 ≤ v13 ∧ v13 < 1024) <|
        zck (zR (ra_cells v13)) <|
        if (ra_cells v13) = 0 then
          zck (0 ≤ v13 ∧ v13 < 1024) <|
          zlt (zup ra_cells v13 1) fun a21 =>
          zlt ((ra_cellCount + 1)) fun v22 =>
          some (a21, v22)
        else
          some (ra_cells, ra_cellCount)
def f_X5_walkTo_L28 (x1 : Int) (x2 : Int) (x3 : Int) (x4 : Int) (x5 : Int) (x6 : Int) (ra_cells : Int → Int) (ra_cellCount : Int) : Option ((Int × (Int → Int) × Int) ⊕ (Int × (Int → Int) × Int)) :=
  zck (zR x6 ∧ zR x5) <|
  if x5 < x6 then
    some (.inr (x6, ra_cells, ra_cellCount))
  else
    zb1 (f_X6_placeOf x1 x3 x6 x5) fun r3 =>
    zb1 (f_X6_placeOf x2 x4 x6 x5) fun r7 =>
    zb2 (f_X5_touch ra_cells ra_cellCount r3 r7) fun a11 u12 =>
    some (.inl ((x6 + 1), a11, u12))
def f_X5_walkTo (ra_cells : Int → Int) (ra_cellCount : Int) (p1 : Int) (p2 : Int) (p3 : Int) (p4 : Int) : Option ((Int → Int) × Int) :=
  zb1 (f_X6_greaterDifference (p3 - p1) (p4 - p2)) fun r15 =>
  zck (zR r15) <|
  if r15 = 0 then
    some (ra_cells, ra_cellCount)
  else
    zck (zR r15) <|
    if r15 ≤ 12 then
      zb3 (zlp (fun z => f_X5_walkTo_L28 p1 p2 p3 p4 r15 z.1 z.2.1 z.2.2) zFU (0, ra_cells, ra_cellCount)) fun w24 w25 w26 =>
      some (w25, w26)
    else
      some (ra_cells, ra_cellCount)
def f_X5_walk_L31 (pt_xs : Int → Int) (pt_ys : Int → Int) (pt_size : Int) (x2 : Int) (ra_cells : Int → Int) (ra_cellCount : Int) : Option ((Int × (Int → Int) × Int) ⊕ (Int × (Int → Int) × Int)) :=
  zck (zR x2 ∧ zR pt_size) <|
  if pt_size ≤ x2 then
    some (.inr (x2, ra_cells, ra_cellCount))
  else
    zck (zR x2) <|
    if 2078 ≤ x2 then
      some (.inr (x2, ra_cells, ra_cellCount))
    else
      zck (zR x2) <|
      if 2078 ≤ x2 then
        some (.inr (x2, ra_cells, ra_cellCount))
      else
        zck (0 ≤ (x2 - 1) ∧ (x2 - 1) < 2078) <|
        zck (0 ≤ (x2 - 1) ∧ (x2 - 1) < 2078) <|
        zck (0 ≤ x2 ∧ x2 < 2078) <|
        zck (0 ≤ x2 ∧ x2 < 2078) <|
        zb2 (f_X5_walkTo ra_cells ra_cellCount (pt_xs (x2 - 1)) (pt_ys (x2 - 1)) (pt_xs x2) (pt_ys x2)) fun a11 u12 =>
        some (.inl ((x2 + 1), a11, u12))
def f_X5_walk_L7 (pt_xs : Int → Int) (pt_ys : Int → Int) (pt_size : Int) (ra_cellCount : Int) (x2 : Int) (ra_cells : Int → Int) : Option ((Int × (Int → Int)) ⊕ (Int × (Int → Int))) :=
  zck (zR x2) <|
  if 1024 ≤ x2 then
    some (.inr (x2, ra_cells))
  else
    zck (0 ≤ x2 ∧ x2 < 1024) <|
    zlt (zup ra_cells x2 0) fun a19 =>
    some (.inl ((x2 + 1), a19))
def f_X5_walk (pt_xs : Int → Int) (pt_ys : Int → Int) (pt_size : Int) (ra_cells : Int → Int) (ra_cellCount : Int) : Option ((Int → Int) × Int) :=
  zb2 (zlp (fun z => f_X5_walk_L7 pt_xs pt_ys pt_size 0 z.1 z.2) zFU (0, ra_cells)) fun w22 w23 =>
  zb3 (zlp (fun z => f_X5_walk_L31 pt_xs pt_ys pt_size z.1 z.2.1 z.2.2) zFU (1, w23, 0)) fun w26 w27 w28 =>
  some (w27, w28)
def f_X5_isNear_L27 (ra_cells : Int → Int) (x1 : Int) (x5 : Int) (x6 : Int) : Option ((Int) ⊕ ((Int) ⊕ (Int))) :=
  zck (zR x6 ∧ zR x5) <|
  if x5 < x6 then
    some (.inr (.inl x6))
  else
    zlt (((x6 * 32) + x1)) fun v3 =>
    zck (zR v3) <|
    if v3 < 0 then
      some (.inl (x6 + 1))
    else
      zck (zR v3) <|
      if 1024 ≤ v3 then
        some (.inl (x6 + 1))
      else
        zck (0 ≤ v3 ∧ v3 < 1024) <|
        zck (zR (ra_cells v3)) <|
        if (ra_cells v3) = 0 then
          some (.inl (x6 + 1))
        else
          some (.inr (.inr 1))
def f_X5_isNear (ra_cells : Int → Int) (p1 : Int) (p2 : Int) (p3 : Int) : Option (Int) :=
  zck (zR ((p2 - p3) + 1)) <|
  zlt ((max 0 ((p2 - p3) + 1))) fun v12 =>
  zck (zR ((p2 + p3) - 1)) <|
  zlt ((min 31 ((p2 + p3) - 1))) fun v14 =>
  zbs (zlp (fun z => f_X5_isNear_L27 ra_cells p1 v14 z) zFU v12) (fun w16 =>
    some 0
  ) (fun b => some b)
def f_X5_partCovered_L37 (fd_cornerXs : Int → Int) (fd_cornerYs : Int → Int) (fd_crossings : Int → Int) (fd_cornerCount : Int) (fd_crossingCount : Int) (fd_density : Int) (ra_cells : Int → Int) (x4 : Int) (x5 : Int) (x2 : Int) (x3 : Int) (x6 : Int) : Option ((Int × Int × Int) ⊕ (Int × Int × Int)) :=
  zck (zR x6) <|
  if 32 ≤ x6 then
    some (.inr (x2, x3, x6))
  else
    zb1 (f_X0_spans fd_crossings fd_crossingCount x6) fun r3 =>
    zck (zR r3) <|
    if r3 = 0 then
      some (.inl (x2, x3, (x6 + 1)))
    else
      zb1 (f_X5_isNear ra_cells x6 x5 fd_density) fun r9 =>
      zck (zR r9) <|
      if r9 = 0 then
        zlt ((x3 + 0)) fun v15 =>
        some (.inl ((x2 + 1), v15, (x6 + 1)))
      else
        zlt ((x3 + 1)) fun v16 =>
        some (.inl ((x2 + 1), v16, (x6 + 1)))
def f_X5_partCovered_L21 (fd_cornerXs : Int → Int) (fd_cornerYs : Int → Int) (fd_cornerCount : Int) (fd_density : Int) (ra_cells : Int → Int) (x4 : Int) (x2 : Int) (x3 : Int) (x5 : Int) (fd_crossings : Int → Int) (fd_crossingCount : Int) : Option ((Int × Int × Int × (Int → Int) × Int) ⊕ (Int × Int × Int × (Int → Int) × Int)) :=
  zck (zR x5 ∧ zR x4) <|
  if x4 ≤ x5 then
    some (.inr (x2, x3, x5, fd_crossings, fd_crossingCount))
  else
    zb2 (f_X0_cross fd_cornerXs fd_cornerYs fd_crossings fd_cornerCount fd_crossingCount x5) fun a19 u20 =>
    zb3 (zlp (fun z => f_X5_partCovered_L37 fd_cornerXs fd_cornerYs a19 fd_cornerCount u20 fd_density ra_cells x4 x5 z.1 z.2.1 z.2.2) zFU (x2, x3, 0)) fun w24 w25 w26 =>
    some (.inl (w24, w25, (x5 + 1), a19, u20))
def f_X5_partCovered (fd_cornerXs : Int → Int) (fd_cornerYs : Int → Int) (fd_crossings : Int → Int) (fd_cornerCount : Int) (fd_crossingCount : Int) (fd_density : Int) (ra_cells : Int → Int) : Option (UInt32 × (Int → Int) × Int) :=
  zb1 (f_X0_greatestY fd_cornerYs fd_cornerCount) fun r28 =>
  zck (zR r28) <|
  zlt ((min r28 32)) fun v33 =>
  zb1 (f_X0_leastY fd_cornerYs fd_cornerCount) fun r34 =>
  zb5 (zlp (fun z => f_X5_partCovered_L21 fd_cornerXs fd_cornerYs fd_cornerCount fd_density ra_cells v33 z.1 z.2.1 z.2.2.1 z.2.2.2.1 z.2.2.2.2) zFU (0, 0, r34, fd_crossings, fd_crossingCount)) fun w39 w40 w41 w42 w43 =>
  zck (zR w39) <|
  if w39 = 0 then
    some (0, w42, w43)
  else
    zck (zn32 (FP.fdiv (FP.i2f (zI w40)) (FP.i2f (zI w39)))) <|
    some ((FP.fdiv (FP.i2f (zI w40)) (FP.i2f (zI w39))), w42, w43)
def f_X7_thrown (mo_thrown : Int) : Option (Int) :=
  some mo_thrown
def f_X7_fails (mo_thrown : Int) (p1 : Int) : Option (Int × Int) :=
  some (0, p1)
def f_X7_asks_10 (mo_thrown : Int) (x1 : Int) (s1 : Int) : Option (Int × Int) :=
  zck (x1 = 0 ∨ x1 = 1) <|
  some (x1, s1)
def f_X7_asks (mo_thrown : Int) (p1 : Int) : Option (Int × Int) :=
  zck (zR p1) <|
  if p1 = 0 then
    f_X7_asks_10 mo_thrown p1 1
  else
    f_X7_asks_10 mo_thrown p1 0
def f_X7_in (p0 : Int) (p1 : Int) (p2 : Int) : Option (Int) :=
  zck (zR p0 ∧ zR p1) <|
  if p0 < p1 then
    some 0
  else
    zck (zR p0 ∧ zR p2) <|
    if p2 < p0 then
      some 0
    else
      some 1
def f_X7_size (p0 : Int) : Option (Int) :=
  zck (zR p0) <|
  if 0 ≤ p0 then
    some p0
  else
    some (-p0)
def f_X7_greater (p0 : Int) (p1 : Int) : Option (Int) :=
  zck (zR p0 ∧ zR p1) <|
  if p0 ≤ p1 then
    some p1
  else
    some p0
def f_X7_down_21 (x2 : Int) (s0 : Int) : Option (Int) :=
  zck (zR x2) <|
  if x2 < 0 then
    zck ((zR ((s0 - 1) - x2) ∧ zR s0) ∧ s0 ≠ 0) <|
    some (-(Int.tdiv ((s0 - 1) - x2) s0))
  else
    zck ((zR x2 ∧ zR s0) ∧ s0 ≠ 0) <|
    some (Int.tdiv x2 s0)
def f_X7_down_10 (x1 : Int) (s0 : Int) : Option (Int) :=
  zck (zR x1) <|
  if 0 ≤ x1 then
    f_X7_down_21 s0 x1
  else
    f_X7_down_21 s0 (-x1)
def f_X7_down (p0 : Int) (p1 : Int) : Option (Int) :=
  zck (zR p1) <|
  if 0 ≤ p1 then
    f_X7_down_10 p1 p0
  else
    f_X7_down_10 p1 (-p0)
def f_X7_isField (mo_fields : Int) (p1 : Int) : Option (Int) :=
  zb1 (f_X7_in p1 0 (mo_fields - 1)) fun r1 =>
  zck (r1 = 0 ∨ r1 = 1) <|
  some r1
def f_X7_field_24 (mo_fields : Int) (mo_colour : Int → Int) (mo_layer : Int → Int) (mo_isColumn : Int → Int) (mo_density : Int → Int) (mo_longest : Int → Int) (mo_isKnown : Int) (mo_thrown : Int) (x1 : Int) (x2 : Int) (x3 : Int) (s1 : Int) : Option (Int × Int × (Int → Int) × (Int → Int) × (Int → Int) × (Int → Int) × (Int → Int) × Int × Int) :=
  zb2 (f_X7_asks mo_thrown s1) fun r1 u2 =>
  zck (zR r1) <|
  if r1 = 0 then
    some (0, mo_fields, mo_colour, mo_layer, mo_isColumn, mo_density, mo_longest, mo_isKnown, u2)
  else
    zck (zR mo_fields) <|
    if mo_fields = 8 then
      zb2 (f_X7_fails u2 2) fun r29 u30 =>
      some (r29, mo_fields, mo_colour, mo_layer, mo_isColumn, mo_density, mo_longest, mo_isKnown, u30)
    else
      zck (0 ≤ mo_fields ∧ mo_fields < 8) <|
      zlt (zup mo_colour mo_fields x1) fun a12 =>
      zck (0 ≤ mo_fields ∧ mo_fields < 8) <|
      zlt (zup mo_layer mo_fields x2) fun a15 =>
      zck (0 ≤ mo_fields ∧ mo_fields < 8) <|
      zck (x3 = 0 ∨ x3 = 1) <|
      zlt (zup mo_isColumn mo_fields x3) fun a19 =>
      zck (0 ≤ mo_fields ∧ mo_fields < 8) <|
      zlt (zup mo_density mo_fields 2) fun a22 =>
      zck (0 ≤ mo_fields ∧ mo_fields < 8) <|
      zlt (zup mo_longest mo_fields 6) fun a25 =>
      zlt ((mo_fields + 1)) fun v26 =>
      some ((v26 - 1), v26, a12, a15, a19, a22, a25, 0, u2)
def f_X7_field_23 (mo_fields : Int) (mo_colour : Int → Int) (mo_layer : Int → Int) (mo_isColumn : Int → Int) (mo_density : Int → Int) (mo_longest : Int → Int) (mo_isKnown : Int) (mo_thrown : Int) (x1 : Int) (x2 : Int) (x3 : Int) : Option (Int × Int × (Int → Int) × (Int → Int) × (Int → Int) × (Int → Int) × (Int → Int) × Int × Int) :=
  f_X7_field_24 mo_fields mo_colour mo_layer mo_isColumn mo_density mo_longest mo_isKnown mo_thrown x1 x2 x3 0
def f_X7_field (mo_fields : Int) (mo_colour : Int → Int) (mo_layer : Int → Int) (mo_isColumn : Int → Int) (mo_density : Int → Int) (mo_longest : Int → Int) (mo_isKnown : Int) (mo_thrown : Int) (p1 : Int) (p2 : Int) (p3 : Int) : Option (Int × Int × (Int → Int) × (Int → Int) × (Int → Int) × (Int → Int) × (Int → Int) × Int × Int) :=
  zb1 (f_X7_in p1 0 5) fun r34 =>
  zck (zR r34) <|
  if r34 = 0 then
    f_X7_field_23 mo_fields mo_colour mo_layer mo_isColumn mo_density mo_longest mo_isKnown mo_thrown p1 p2 p3
  else
    zb1 (f_X7_in p2 0 3) fun r40 =>
    zck (zR r40) <|
    if r40 = 0 then
      f_X7_field_23 mo_fields mo_colour mo_layer mo_isColumn mo_density mo_longest mo_isKnown mo_thrown p1 p2 p3
    else
      f_X7_field_24 mo_fields mo_colour mo_layer mo_isColumn mo_density mo_longest mo_isKnown mo_thrown p1 p2 p3 1
def f_X7_corner_61 (mo_fields : Int) (mo_isColumn : Int → Int) (mo_corners : Int → Int) (mo_cornerX : Int → Int) (mo_cornerY : Int → Int) (mo_isKnown : Int) (mo_thrown : Int) (x1 : Int) (x2 : Int) (x3 : Int) (s0 : Int) (s1 : Int) : Option (Int × (Int → Int) × (Int → Int) × (Int → Int) × Int × Int) :=
  zck (zR s0 ∧ zR s1) <|
  if s0 = s1 then
    zb2 (f_X7_fails mo_thrown 3) fun r17 u18 =>
    some (r17, mo_corners, mo_cornerX, mo_cornerY, mo_isKnown, u18)
  else
    zck (0 ≤ x1 ∧ x1 < 8) <|
    zck (0 ≤ ((8 * x1) + (mo_corners x1)) ∧ ((8 * x1) + (mo_corners x1)) < 64) <|
    zlt (zup mo_cornerX ((8 * x1) + (mo_corners x1)) x2) fun a6 =>
    zck (0 ≤ x1 ∧ x1 < 8) <|
    zck (0 ≤ ((8 * x1) + (mo_corners x1)) ∧ ((8 * x1) + (mo_corners x1)) < 64) <|
    zlt (zup mo_cornerY ((8 * x1) + (mo_corners x1)) x3) fun a10 =>
    zck (0 ≤ x1 ∧ x1 < 8) <|
    zck (0 ≤ x1 ∧ x1 < 8) <|
    zlt (zup mo_corners x1 ((mo_corners x1) + 1)) fun a14 =>
    zck (0 ≤ x1 ∧ x1 < 8) <|
    some ((a14 x1), a14, a6, a10, 0, mo_thrown)
def f_X7_corner_34 (mo_fields : Int) (mo_isColumn : Int → Int) (mo_corners : Int → Int) (mo_cornerX : Int → Int) (mo_cornerY : Int → Int) (mo_isKnown : Int) (mo_thrown : Int) : Option (Int × (Int → Int) × (Int → Int) × (Int → Int) × Int × Int) :=
  zb2 (f_X7_fails mo_thrown 2) fun r22 u23 =>
  some (r22, mo_corners, mo_cornerX, mo_cornerY, mo_isKnown, u23)
def f_X7_corner (mo_fields : Int) (mo_isColumn : Int → Int) (mo_corners : Int → Int) (mo_cornerX : Int → Int) (mo_cornerY : Int → Int) (mo_isKnown : Int) (mo_thrown : Int) (p1 : Int) (p2 : Int) (p3 : Int) : Option (Int × (Int → Int) × (Int → Int) × (Int → Int) × Int × Int) :=
  zb1 (f_X7_isField mo_fields p1) fun r27 =>
  zb2 (f_X7_asks mo_thrown r27) fun r31 u32 =>
  zck (zR r31) <|
  if r31 = 0 then
    some (0, mo_corners, mo_cornerX, mo_cornerY, mo_isKnown, u32)
  else
    zb1 (f_X7_in p2 0 31) fun r38 =>
    zck (zR r38) <|
    if r38 = 0 then
      f_X7_corner_34 mo_fields mo_isColumn mo_corners mo_cornerX mo_cornerY mo_isKnown u32
    else
      zb1 (f_X7_in p3 0 31) fun r44 =>
      zck (zR r44) <|
      if r44 = 0 then
        f_X7_corner_34 mo_fields mo_isColumn mo_corners mo_cornerX mo_cornerY mo_isKnown u32
      else
        zck (0 ≤ p1 ∧ p1 < 8) <|
        zck (0 ≤ p1 ∧ p1 < 8) <|
        zck (zR (mo_isColumn p1)) <|
        if (mo_isColumn p1) = 0 then
          f_X7_corner_61 mo_fields mo_isColumn mo_corners mo_cornerX mo_cornerY mo_isKnown u32 p1 p2 p3 (mo_corners p1) 8
        else
          f_X7_corner_61 mo_fields mo_isColumn mo_corners mo_cornerX mo_cornerY mo_isKnown u32 p1 p2 p3 (mo_corners p1) 4
def f_X7_sew_54 (mo_fields : Int) (mo_density : Int → Int) (mo_longest : Int → Int) (mo_shift : Int → Int) (mo_pull : Int → Int) (mo_hasUnderlay : Int → Int) (mo_isKnown : Int) (mo_thrown : Int) : Option ((Int → Int) × (Int → Int) × (Int → Int) × (Int → Int) × (Int → Int) × Int × Int) :=
  some (mo_density, mo_longest, mo_shift, mo_pull, mo_hasUnderlay, mo_isKnown, 2)
def f_X7_sew (mo_fields : Int) (mo_density : Int → Int) (mo_longest : Int → Int) (mo_shift : Int → Int) (mo_pull : Int → Int) (mo_hasUnderlay : Int → Int) (mo_isKnown : Int) (mo_thrown : Int) (p1 : Int) (p2 : Int) (p3 : Int) (p4 : Int) (p5 : Int) (p6 : Int) : Option ((Int → Int) × (Int → Int) × (Int → Int) × (Int → Int) × (Int → Int) × Int × Int) :=
  zb1 (f_X7_isField mo_fields p1) fun r2 =>
  zb2 (f_X7_asks mo_thrown r2) fun r6 u7 =>
  zck (zR r6) <|
  if r6 = 0 then
    some (mo_density, mo_longest, mo_shift, mo_pull, mo_hasUnderlay, mo_isKnown, u7)
  else
    zb1 (f_X7_in p2 1 8) fun r13 =>
    zck (zR r13) <|
    if r13 = 0 then
      f_X7_sew_54 mo_fields mo_density mo_longest mo_shift mo_pull mo_hasUnderlay mo_isKnown u7
    else
      zb1 (f_X7_in p3 1 12) fun r19 =>
      zck (zR r19) <|
      if r19 = 0 then
        f_X7_sew_54 mo_fields mo_density mo_longest mo_shift mo_pull mo_hasUnderlay mo_isKnown u7
      else
        zb1 (f_X7_in p4 0 11) fun r25 =>
        zck (zR r25) <|
        if r25 = 0 then
          f_X7_sew_54 mo_fields mo_density mo_longest mo_shift mo_pull mo_hasUnderlay mo_isKnown u7
        else
          zb1 (f_X7_in p5 0 3) fun r31 =>
          zck (zR r31) <|
          if r31 = 0 then
            f_X7_sew_54 mo_fields mo_density mo_longest mo_shift mo_pull mo_hasUnderlay mo_isKnown u7
          else
            zck (0 ≤ p1 ∧ p1 < 8) <|
            zlt (zup mo_density p1 p2) fun a39 =>
            zck (0 ≤ p1 ∧ p1 < 8) <|
            zlt (zup mo_longest p1 p3) fun a42 =>
            zck (0 ≤ p1 ∧ p1 < 8) <|
            zlt (zup mo_shift p1 p4) fun a45 =>
            zck (0 ≤ p1 ∧ p1 < 8) <|
            zlt (zup mo_pull p1 p5) fun a48 =>
            zck (0 ≤ p1 ∧ p1 < 8) <|
            zck (p6 = 0 ∨ p6 = 1) <|
            zlt (zup mo_hasUnderlay p1 p6) fun a52 =>
            some (a39, a42, a45, a48, a52, 0, u7)
def f_X7_scale_L118 (mo_fields : Int) (mo_corners : Int → Int) (mo_isKnown : Int) (mo_thrown : Int) (x1 : Int) (x2 : Int) (x4 : Int) (mo_cornerX : Int → Int) (mo_cornerY : Int → Int) : Option ((Int × (Int → Int) × (Int → Int)) ⊕ (Int × (Int → Int) × (Int → Int))) :=
  zck (0 ≤ x1 ∧ x1 < 8) <|
  zck (zR x4 ∧ zR (mo_corners x1)) <|
  if (mo_corners x1) ≤ x4 then
    some (.inr (x4, mo_cornerX, mo_cornerY))
  else
    zlt (((8 * x1) + x4)) fun v4 =>
    zck (0 ≤ v4 ∧ v4 < 64) <|
    zck (zR ((mo_cornerX v4) * x2)) <|
    zck (0 ≤ v4 ∧ v4 < 64) <|
    zlt (zup mo_cornerX v4 (Int.tdiv ((mo_cornerX v4) * x2) 100)) fun a9 =>
    zck (0 ≤ v4 ∧ v4 < 64) <|
    zck (zR ((mo_cornerY v4) * x2)) <|
    zck (0 ≤ v4 ∧ v4 < 64) <|
    zlt (zup mo_cornerY v4 (Int.tdiv ((mo_cornerY v4) * x2) 100)) fun a14 =>
    some (.inl ((x4 + 1), a9, a14))
def f_X7_scale_L35 (mo_fields : Int) (mo_corners : Int → Int) (mo_cornerX : Int → Int) (mo_cornerY : Int → Int) (mo_isKnown : Int) (mo_thrown : Int) (x1 : Int) (x2 : Int) (x3 : Int) (x4 : Int) : Option ((Int × Int) ⊕ (Int × Int)) :=
  zck (0 ≤ x1 ∧ x1 < 8) <|
  zck (zR x4 ∧ zR (mo_corners x1)) <|
  if (mo_corners x1) ≤ x4 then
    some (.inr (x3, x4))
  else
    zlt (((8 * x1) + x4)) fun v18 =>
    zck (zR x3) <|
    if x3 = 0 then
      some (.inl (0, (x4 + 1)))
    else
      zck (0 ≤ v18 ∧ v18 < 64) <|
      zck (zR ((mo_cornerX v18) * x2)) <|
      zck (zR (Int.tdiv ((mo_cornerX v18) * x2) 100)) <|
      if 32 ≤ (Int.tdiv ((mo_cornerX v18) * x2) 100) then
        some (.inl (0, (x4 + 1)))
      else
        zck (0 ≤ v18 ∧ v18 < 64) <|
        zck (zR ((mo_cornerY v18) * x2)) <|
        zck (zR (Int.tdiv ((mo_cornerY v18) * x2) 100)) <|
        if 32 ≤ (Int.tdiv ((mo_cornerY v18) * x2) 100) then
          some (.inl (0, (x4 + 1)))
        else
          some (.inl (1, (x4 + 1)))
def f_X7_scale (mo_fields : Int) (mo_corners : Int → Int) (mo_cornerX : Int → Int) (mo_cornerY : Int → Int) (mo_isKnown : Int) (mo_thrown : Int) (p1 : Int) (p2 : Int) : Option ((Int → Int) × (Int → Int) × Int × Int) :=
  zb1 (f_X7_isField mo_fields p1) fun r29 =>
  zb2 (f_X7_asks mo_thrown r29) fun r33 u34 =>
  zck (zR r33) <|
  if r33 = 0 then
    some (mo_cornerX, mo_cornerY, mo_isKnown, u34)
  else
    zb1 (f_X7_in p2 1 400) fun r40 =>
    zck (zR r40) <|
    if r40 = 0 then
      some (mo_cornerX, mo_cornerY, mo_isKnown, 2)
    else
      zb2 (zlp (fun z => f_X7_scale_L35 mo_fields mo_corners mo_cornerX mo_cornerY mo_isKnown u34 p1 p2 z.1 z.2) zFU (1, 0)) fun w47 w48 =>
      zck (zR w47) <|
      if w47 = 0 then
        some (mo_cornerX, mo_cornerY, mo_isKnown, 3)
      else
        zb3 (zlp (fun z => f_X7_scale_L118 mo_fields mo_corners mo_isKnown u34 p1 p2 z.1 z.2.1 z.2.2) zFU (0, mo_cornerX, mo_cornerY)) fun w53 w54 w55 =>
        some (w54, w55, 0, u34)
def f_X7_bound (mo_bound : Int) (mo_isKnown : Int) (mo_thrown : Int) (p1 : Int) : Option (Int × Int × Int × Int) :=
  zb1 (f_X7_in p1 0 100) fun r1 =>
  zb2 (f_X7_asks mo_thrown r1) fun r5 u6 =>
  zck (zR r5) <|
  if r5 = 0 then
    some (0, mo_bound, mo_isKnown, u6)
  else
    some (mo_bound, p1, 0, u6)
def f_X7_point (mo_pointX : Int → Int) (mo_pointY : Int → Int) (mo_points : Int) (p1 : Int) (p2 : Int) : Option ((Int → Int) × (Int → Int) × Int) :=
  zck (0 ≤ mo_points ∧ mo_points < 4096) <|
  zlt (zup mo_pointX mo_points p1) fun a3 =>
  zck (0 ≤ mo_points ∧ mo_points < 4096) <|
  zlt (zup mo_pointY mo_points p2) fun a6 =>
  zlt ((mo_points + 1)) fun v7 =>
  some (a3, a6, v7)
def f_X7_crosses_L7_196 (mo_corners : Int → Int) (mo_cornerX : Int → Int) (mo_cornerY : Int → Int) (mo_crossing : Int → Int) (mo_crossings : Int) (x1 : Int) (x2 : Int) (x3 : Int) (x9 : Int) (x10 : Int) : Option ((Int × (Int → Int) × Int) ⊕ (Int × (Int → Int) × Int)) :=
  zck (0 ≤ x10 ∧ x10 < 8) <|
  zlt (zup mo_crossing x10 x9) fun a3 =>
  zlt ((mo_crossings + 1)) fun v4 =>
  some (.inl ((x3 + 1), a3, v4))
def f_X7_crosses_L155 (mo_corners : Int → Int) (mo_cornerX : Int → Int) (mo_cornerY : Int → Int) (mo_crossings : Int) (x1 : Int) (x2 : Int) (x3 : Int) (x9 : Int) (x10 : Int) (mo_crossing : Int → Int) : Option ((Int × (Int → Int)) ⊕ (Int × (Int → Int))) :=
  zck (zR x10) <|
  if x10 ≤ 0 then
    some (.inr (x10, mo_crossing))
  else
    zck (0 ≤ (x10 - 1) ∧ (x10 - 1) < 8) <|
    zck (zR (mo_crossing (x10 - 1)) ∧ zR x9) <|
    if (mo_crossing (x10 - 1)) ≤ x9 then
      some (.inr (x10, mo_crossing))
    else
      zck (0 ≤ (x10 - 1) ∧ (x10 - 1) < 8) <|
      zck (0 ≤ x10 ∧ x10 < 8) <|
      zlt (zup mo_crossing x10 (mo_crossing (x10 - 1))) fun a14 =>
      some (.inl ((x10 + (-1)), a14))
def f_X7_crosses_L7_104 (mo_corners : Int → Int) (mo_cornerX : Int → Int) (mo_cornerY : Int → Int) (mo_crossing : Int → Int) (mo_crossings : Int) (x1 : Int) (x2 : Int) (x3 : Int) (x4 : Int) (x5 : Int) (x6 : Int) (x7 : Int) (s0 : Int) : Option ((Int × (Int → Int) × Int) ⊕ (Int × (Int → Int) × Int)) :=
  zck (zR s0) <|
  if s0 = 0 then
    some (.inl ((x3 + 1), mo_crossing, mo_crossings))
  else
    zck (0 ≤ x4 ∧ x4 < 64) <|
    zck (0 ≤ x5 ∧ x5 < 64) <|
    zck (0 ≤ x4 ∧ x4 < 64) <|
    zb1 (f_X7_down ((x2 - x6) * ((mo_cornerX x5) - (mo_cornerX x4))) (x7 - x6)) fun r20 =>
    zlt (((mo_cornerX x4) + r20)) fun v24 =>
    zb2 (zlp (fun z => f_X7_crosses_L155 mo_corners mo_cornerX mo_cornerY mo_crossings x1 x2 x3 v24 z.1 z.2) zFU (mo_crossings, mo_crossing)) fun w26 w27 =>
    f_X7_crosses_L7_196 mo_corners mo_cornerX mo_cornerY w27 mo_crossings x1 x2 x3 v24 w26
def f_X7_crosses_L7_103 (mo_corners : Int → Int) (mo_cornerX : Int → Int) (mo_cornerY : Int → Int) (mo_crossing : Int → Int) (mo_crossings : Int) (x1 : Int) (x2 : Int) (x3 : Int) (x4 : Int) (x5 : Int) (x6 : Int) (x7 : Int) : Option ((Int × (Int → Int) × Int) ⊕ (Int × (Int → Int) × Int)) :=
  f_X7_crosses_L7_104 mo_corners mo_cornerX mo_cornerY mo_crossing mo_crossings x1 x2 x3 x4 x5 x6 x7 0
def f_X7_crosses_L7_83 (mo_corners : Int → Int) (mo_cornerX : Int → Int) (mo_cornerY : Int → Int) (mo_crossing : Int → Int) (mo_crossings : Int) (x1 : Int) (x2 : Int) (x3 : Int) (x4 : Int) (x5 : Int) (x6 : Int) (x7 : Int) : Option ((Int × (Int → Int) × Int) ⊕ (Int × (Int → Int) × Int)) :=
  f_X7_crosses_L7_104 mo_corners mo_cornerX mo_cornerY mo_crossing mo_crossings x1 x2 x3 x4 x5 x6 x7 0
def f_X7_crosses_L7 (mo_corners : Int → Int) (mo_cornerX : Int → Int) (mo_cornerY : Int → Int) (x1 : Int) (x2 : Int) (x3 : Int) (mo_crossing : Int → Int) (mo_crossings : Int) : Option ((Int × (Int → Int) × Int) ⊕ (Int × (Int → Int) × Int)) :=
  zck (0 ≤ x1 ∧ x1 < 8) <|
  zck (zR x3 ∧ zR (mo_corners x1)) <|
  if (mo_corners x1) ≤ x3 then
    some (.inr (x3, mo_crossing, mo_crossings))
  else
    zlt (((8 * x1) + x3)) fun v32 =>
    zck (0 ≤ x1 ∧ x1 < 8) <|
    zck ((zR (x3 + 1) ∧ zR (mo_corners x1)) ∧ (mo_corners x1) ≠ 0) <|
    zlt (((8 * x1) + (Int.tmod (x3 + 1) (mo_corners x1)))) fun v35 =>
    zck (0 ≤ v32 ∧ v32 < 64) <|
    zlt ((mo_cornerY v32)) fun v37 =>
    zck (0 ≤ v35 ∧ v35 < 64) <|
    zlt ((mo_cornerY v35)) fun v39 =>
    zck (zR v37 ∧ zR v39) <|
    if v39 ≤ v37 then
      zck (zR v39 ∧ zR x2) <|
      if x2 < v39 then
        f_X7_crosses_L7_103 mo_corners mo_cornerX mo_cornerY mo_crossing mo_crossings x1 x2 x3 v32 v35 v37 v39
      else
        zck (zR x2 ∧ zR v37) <|
        if v37 ≤ x2 then
          f_X7_crosses_L7_103 mo_corners mo_cornerX mo_cornerY mo_crossing mo_crossings x1 x2 x3 v32 v35 v37 v39
        else
          f_X7_crosses_L7_104 mo_corners mo_cornerX mo_cornerY mo_crossing mo_crossings x1 x2 x3 v32 v35 v37 v39 1
    else
      zck (zR v37 ∧ zR x2) <|
      if x2 < v37 then
        f_X7_crosses_L7_83 mo_corners mo_cornerX mo_cornerY mo_crossing mo_crossings x1 x2 x3 v32 v35 v37 v39
      else
        zck (zR x2 ∧ zR v39) <|
        if v39 ≤ x2 then
          f_X7_crosses_L7_83 mo_corners mo_cornerX mo_cornerY mo_crossing mo_crossings x1 x2 x3 v32 v35 v37 v39
        else
          f_X7_crosses_L7_104 mo_corners mo_cornerX mo_cornerY mo_crossing mo_crossings x1 x2 x3 v32 v35 v37 v39 1
def f_X7_crosses (mo_corners : Int → Int) (mo_cornerX : Int → Int) (mo_cornerY : Int → Int) (mo_crossing : Int → Int) (mo_crossings : Int) (p1 : Int) (p2 : Int) : Option ((Int → Int) × Int) :=
  zb3 (zlp (fun z => f_X7_crosses_L7 mo_corners mo_cornerX mo_cornerY p1 p2 z.1 z.2.1 z.2.2) zFU (0, mo_crossing, 0)) fun w52 w53 w54 =>
  some (w53, w54)
def f_X7_spans_L69_155 (mo_longest : Int → Int) (mo_shift : Int → Int) (mo_pull : Int → Int) (mo_pointX : Int → Int) (mo_pointY : Int → Int) (mo_points : Int) (mo_crossing : Int → Int) (mo_crossings : Int) (mo_rowY : Int) (x1 : Int) (x2 : Int) (x3 : Int) (x5 : Int) (x6 : Int) (x7 : Int) (x8 : Int) (s0 : Int) : Option ((Int × (Int → Int) × (Int → Int) × Int) ⊕ (Int × (Int → Int) × (Int → Int) × Int)) :=
  zck (zR s0) <|
  if s0 = 0 then
    some (.inl ((x7 + 1), mo_pointX, mo_pointY, mo_points))
  else
    zb3 (f_X7_point mo_pointX mo_pointY mo_points x8 mo_rowY) fun a3 a4 u5 =>
    some (.inl ((x7 + 1), a3, a4, u5))
def f_X7_spans_L69_150 (mo_longest : Int → Int) (mo_shift : Int → Int) (mo_pull : Int → Int) (mo_pointX : Int → Int) (mo_pointY : Int → Int) (mo_points : Int) (mo_crossing : Int → Int) (mo_crossings : Int) (mo_rowY : Int) (x1 : Int) (x2 : Int) (x3 : Int) (x5 : Int) (x6 : Int) (x7 : Int) (x8 : Int) : Option ((Int × (Int → Int) × (Int → Int) × Int) ⊕ (Int × (Int → Int) × (Int → Int) × Int)) :=
  f_X7_spans_L69_155 mo_longest mo_shift mo_pull mo_pointX mo_pointY mo_points mo_crossing mo_crossings mo_rowY x1 x2 x3 x5 x6 x7 x8 1
def f_X7_spans_L69_98 (mo_longest : Int → Int) (mo_shift : Int → Int) (mo_pull : Int → Int) (mo_pointX : Int → Int) (mo_pointY : Int → Int) (mo_points : Int) (mo_crossing : Int → Int) (mo_crossings : Int) (mo_rowY : Int) (x1 : Int) (x2 : Int) (x3 : Int) (x5 : Int) (x6 : Int) (x7 : Int) (s0 : Int) : Option ((Int × (Int → Int) × (Int → Int) × Int) ⊕ (Int × (Int → Int) × (Int → Int) × Int)) :=
  zck (0 ≤ x1 ∧ x1 < 8) <|
  zlt ((s0 - (x2 * (mo_shift x1)))) fun v9 =>
  zck (zR s0 ∧ zR x5) <|
  if s0 = x5 then
    f_X7_spans_L69_150 mo_longest mo_shift mo_pull mo_pointX mo_pointY mo_points mo_crossing mo_crossings mo_rowY x1 x2 x3 x5 x6 x7 s0
  else
    zck (zR s0 ∧ zR x6) <|
    if s0 = x6 then
      f_X7_spans_L69_150 mo_longest mo_shift mo_pull mo_pointX mo_pointY mo_points mo_crossing mo_crossings mo_rowY x1 x2 x3 x5 x6 x7 s0
    else
      zck (0 ≤ x1 ∧ x1 < 8) <|
      zb1 (f_X7_down v9 (mo_longest x1)) fun r15 =>
      zck (0 ≤ x1 ∧ x1 < 8) <|
      zck (zR (r15 * (mo_longest x1)) ∧ zR v9) <|
      if (r15 * (mo_longest x1)) = v9 then
        f_X7_spans_L69_150 mo_longest mo_shift mo_pull mo_pointX mo_pointY mo_points mo_crossing mo_crossings mo_rowY x1 x2 x3 x5 x6 x7 s0
      else
        f_X7_spans_L69_155 mo_longest mo_shift mo_pull mo_pointX mo_pointY mo_points mo_crossing mo_crossings mo_rowY x1 x2 x3 x5 x6 x7 s0 0
def f_X7_spans_L69 (mo_longest : Int → Int) (mo_shift : Int → Int) (mo_pull : Int → Int) (mo_crossing : Int → Int) (mo_crossings : Int) (mo_rowY : Int) (x1 : Int) (x2 : Int) (x3 : Int) (x5 : Int) (x6 : Int) (x7 : Int) (mo_pointX : Int → Int) (mo_pointY : Int → Int) (mo_points : Int) : Option ((Int × (Int → Int) × (Int → Int) × Int) ⊕ (Int × (Int → Int) × (Int → Int) × Int)) :=
  zck (zR x7 ∧ zR (x6 - x5)) <|
  if (x6 - x5) < x7 then
    some (.inr (x7, mo_pointX, mo_pointY, mo_points))
  else
    zck (zR x2) <|
    zck (zR (Int.tmod x2 2)) <|
    if (Int.tmod x2 2) = 0 then
      f_X7_spans_L69_98 mo_longest mo_shift mo_pull mo_pointX mo_pointY mo_points mo_crossing mo_crossings mo_rowY x1 x2 x3 x5 x6 x7 (x5 + x7)
    else
      f_X7_spans_L69_98 mo_longest mo_shift mo_pull mo_pointX mo_pointY mo_points mo_crossing mo_crossings mo_rowY x1 x2 x3 x5 x6 x7 (x6 - x7)
def f_X7_spans_L2_30 (mo_longest : Int → Int) (mo_shift : Int → Int) (mo_pull : Int → Int) (mo_pointX : Int → Int) (mo_pointY : Int → Int) (mo_points : Int) (mo_crossing : Int → Int) (mo_crossings : Int) (mo_rowY : Int) (x1 : Int) (x2 : Int) (x3 : Int) (s0 : Int) : Option ((Int × (Int → Int) × (Int → Int) × Int) ⊕ (Int × (Int → Int) × (Int → Int) × Int)) :=
  zck (0 ≤ s0 ∧ s0 < 8) <|
  zck (0 ≤ x1 ∧ x1 < 8) <|
  zlt (((mo_crossing s0) - (mo_pull x1))) fun v29 =>
  zck (0 ≤ (s0 + 1) ∧ (s0 + 1) < 8) <|
  zck (0 ≤ x1 ∧ x1 < 8) <|
  zlt (((mo_crossing (s0 + 1)) + (mo_pull x1))) fun v32 =>
  zb4 (zlp (fun z => f_X7_spans_L69 mo_longest mo_shift mo_pull mo_crossing mo_crossings mo_rowY x1 x2 x3 v29 v32 z.1 z.2.1 z.2.2.1 z.2.2.2) zFU (0, mo_pointX, mo_pointY, mo_points)) fun w34 w35 w36 w37 =>
  some (.inl ((x3 + 2), w35, w36, w37))
def f_X7_spans_L2 (mo_longest : Int → Int) (mo_shift : Int → Int) (mo_pull : Int → Int) (mo_crossing : Int → Int) (mo_crossings : Int) (mo_rowY : Int) (x1 : Int) (x2 : Int) (x3 : Int) (mo_pointX : Int → Int) (mo_pointY : Int → Int) (mo_points : Int) : Option ((Int × (Int → Int) × (Int → Int) × Int) ⊕ (Int × (Int → Int) × (Int → Int) × Int)) :=
  zck (zR (x3 + 1) ∧ zR mo_crossings) <|
  if mo_crossings ≤ (x3 + 1) then
    some (.inr (x3, mo_pointX, mo_pointY, mo_points))
  else
    zck (zR x2) <|
    zck (zR (Int.tmod x2 2)) <|
    if (Int.tmod x2 2) = 0 then
      f_X7_spans_L2_30 mo_longest mo_shift mo_pull mo_pointX mo_pointY mo_points mo_crossing mo_crossings mo_rowY x1 x2 x3 x3
    else
      f_X7_spans_L2_30 mo_longest mo_shift mo_pull mo_pointX mo_pointY mo_points mo_crossing mo_crossings mo_rowY x1 x2 x3 ((mo_crossings - 2) - x3)
def f_X7_spans (mo_longest : Int → Int) (mo_shift : Int → Int) (mo_pull : Int → Int) (mo_pointX : Int → Int) (mo_pointY : Int → Int) (mo_points : Int) (mo_crossing : Int → Int) (mo_crossings : Int) (mo_rowY : Int) (p1 : Int) (p2 : Int) : Option ((Int → Int) × (Int → Int) × Int) :=
  zb4 (zlp (fun z => f_X7_spans_L2 mo_longest mo_shift mo_pull mo_crossing mo_crossings mo_rowY p1 p2 z.1 z.2.1 z.2.2.1 z.2.2.2) zFU (0, mo_pointX, mo_pointY, mo_points)) fun w45 w46 w47 w48 =>
  some (w46, w47, w48)
def f_X7_rows_L65 (mo_corners : Int → Int) (mo_cornerX : Int → Int) (mo_cornerY : Int → Int) (mo_density : Int → Int) (mo_longest : Int → Int) (mo_shift : Int → Int) (mo_pull : Int → Int) (x1 : Int) (x3 : Int) (x4 : Int) (x5 : Int) (mo_pointX : Int → Int) (mo_pointY : Int → Int) (mo_points : Int) (mo_crossing : Int → Int) (mo_crossings : Int) (mo_rowY : Int) : Option ((Int × Int × (Int → Int) × (Int → Int) × Int × (Int → Int) × Int × Int) ⊕ (Int × Int × (Int → Int) × (Int → Int) × Int × (Int → Int) × Int × Int)) :=
  zck (zR x5 ∧ zR x3) <|
  if x3 ≤ x5 then
    some (.inr (x4, x5, mo_pointX, mo_pointY, mo_points, mo_crossing, mo_crossings, mo_rowY))
  else
    zb2 (f_X7_crosses mo_corners mo_cornerX mo_cornerY mo_crossing mo_crossings x1 x5) fun a4 u5 =>
    zb3 (f_X7_spans mo_longest mo_shift mo_pull mo_pointX mo_pointY mo_points a4 u5 x5 x1 x4) fun a8 a9 u10 =>
    zck (0 ≤ x1 ∧ x1 < 8) <|
    zlt ((x5 + (mo_density x1))) fun v14 =>
    some (.inl ((x4 + 1), v14, a8, a9, u10, a4, u5, x5))
def f_X7_rows_L8_45 (mo_corners : Int → Int) (mo_cornerX : Int → Int) (mo_cornerY : Int → Int) (mo_density : Int → Int) (mo_longest : Int → Int) (mo_shift : Int → Int) (mo_pull : Int → Int) (mo_pointX : Int → Int) (mo_pointY : Int → Int) (mo_points : Int) (mo_crossing : Int → Int) (mo_crossings : Int) (mo_rowY : Int) (x1 : Int) (x3 : Int) (x4 : Int) (x5 : Int) (s0 : Int) : Option ((Int × Int × Int) ⊕ (Int × Int × Int)) :=
  zb1 (f_X7_greater x3 x5) fun r15 =>
  some (.inl (s0, r15, (x4 + 1)))
def f_X7_rows_L8 (mo_corners : Int → Int) (mo_cornerX : Int → Int) (mo_cornerY : Int → Int) (mo_density : Int → Int) (mo_longest : Int → Int) (mo_shift : Int → Int) (mo_pull : Int → Int) (mo_pointX : Int → Int) (mo_pointY : Int → Int) (mo_points : Int) (mo_crossing : Int → Int) (mo_crossings : Int) (mo_rowY : Int) (x1 : Int) (x2 : Int) (x3 : Int) (x4 : Int) : Option ((Int × Int × Int) ⊕ (Int × Int × Int)) :=
  zck (0 ≤ x1 ∧ x1 < 8) <|
  zck (zR x4 ∧ zR (mo_corners x1)) <|
  if (mo_corners x1) ≤ x4 then
    some (.inr (x2, x3, x4))
  else
    zck (0 ≤ ((8 * x1) + x4) ∧ ((8 * x1) + x4) < 64) <|
    zlt ((mo_cornerY ((8 * x1) + x4))) fun v23 =>
    zck (zR v23 ∧ zR x2) <|
    if x2 ≤ v23 then
      f_X7_rows_L8_45 mo_corners mo_cornerX mo_cornerY mo_density mo_longest mo_shift mo_pull mo_pointX mo_pointY mo_points mo_crossing mo_crossings mo_rowY x1 x3 x4 v23 x2
    else
      f_X7_rows_L8_45 mo_corners mo_cornerX mo_cornerY mo_density mo_longest mo_shift mo_pull mo_pointX mo_pointY mo_points mo_crossing mo_crossings mo_rowY x1 x3 x4 v23 v23
def f_X7_rows (mo_corners : Int → Int) (mo_cornerX : Int → Int) (mo_cornerY : Int → Int) (mo_density : Int → Int) (mo_longest : Int → Int) (mo_shift : Int → Int) (mo_pull : Int → Int) (mo_pointX : Int → Int) (mo_pointY : Int → Int) (mo_points : Int) (mo_crossing : Int → Int) (mo_crossings : Int) (mo_rowY : Int) (p1 : Int) : Option ((Int → Int) × (Int → Int) × Int × (Int → Int) × Int × Int) :=
  zb3 (zlp (fun z => f_X7_rows_L8 mo_corners mo_cornerX mo_cornerY mo_density mo_longest mo_shift mo_pull mo_pointX mo_pointY mo_points mo_crossing mo_crossings mo_rowY p1 z.1 z.2.1 z.2.2) zFU (32, 0, 0)) fun w27 w28 w29 =>
  zb8 (zlp (fun z => f_X7_rows_L65 mo_corners mo_cornerX mo_cornerY mo_density mo_longest mo_shift mo_pull p1 w28 z.1 z.2.1 z.2.2.1 z.2.2.2.1 z.2.2.2.2.1 z.2.2.2.2.2.1 z.2.2.2.2.2.2.1 z.2.2.2.2.2.2.2) zFU (0, w27, mo_pointX, mo_pointY, mo_points, mo_crossing, mo_crossings, mo_rowY)) fun w32 w33 w34 w35 w36 w37 w38 w39 =>
  some (w34, w35, w36, w37, w38, w39)
def f_X7_steps (p0 : Int) (p1 : Int) (p2 : Int) : Option (Int) :=
  zb1 (f_X7_size p0) fun r1 =>
  zb1 (f_X7_size p1) fun r5 =>
  zb1 (f_X7_greater r1 r5) fun r9 =>
  zck ((zR ((r9 + p2) - 1) ∧ zR p2) ∧ p2 ≠ 0) <|
  some (Int.tdiv ((r9 + p2) - 1) p2)
def f_X7_underlays_L104 (mo_corners : Int → Int) (mo_cornerX : Int → Int) (mo_cornerY : Int → Int) (mo_longest : Int → Int) (x1 : Int) (x2 : Int) (x3 : Int) (x4 : Int) (x6 : Int) (x7 : Int) (x8 : Int) (x9 : Int) (mo_pointX : Int → Int) (mo_pointY : Int → Int) (mo_points : Int) : Option ((Int × (Int → Int) × (Int → Int) × Int) ⊕ (Int × (Int → Int) × (Int → Int) × Int)) :=
  zck (zR x9 ∧ zR x8) <|
  if x8 < x9 then
    some (.inr (x9, mo_pointX, mo_pointY, mo_points))
  else
    zck (0 ≤ x4 ∧ x4 < 64) <|
    zb1 (f_X7_down (x6 * x9) x8) fun r4 =>
    zck (0 ≤ x4 ∧ x4 < 64) <|
    zb1 (f_X7_down (x7 * x9) x8) fun r9 =>
    zb3 (f_X7_point mo_pointX mo_pointY mo_points ((mo_cornerX x4) + r4) ((mo_cornerY x4) + r9)) fun a13 a14 u15 =>
    some (.inl ((x9 + 1), a13, a14, u15))
def f_X7_underlays_L23 (mo_corners : Int → Int) (mo_cornerX : Int → Int) (mo_cornerY : Int → Int) (mo_longest : Int → Int) (x1 : Int) (x2 : Int) (x3 : Int) (mo_pointX : Int → Int) (mo_pointY : Int → Int) (mo_points : Int) : Option ((Int × (Int → Int) × (Int → Int) × Int) ⊕ (Int × (Int → Int) × (Int → Int) × Int)) :=
  zck (0 ≤ x1 ∧ x1 < 8) <|
  zck (zR x3 ∧ zR (mo_corners x1)) <|
  if (mo_corners x1) ≤ x3 then
    some (.inr (x3, mo_pointX, mo_pointY, mo_points))
  else
    zlt ((x2 + x3)) fun v21 =>
    zck (0 ≤ x1 ∧ x1 < 8) <|
    zck ((zR (x3 + 1) ∧ zR (mo_corners x1)) ∧ (mo_corners x1) ≠ 0) <|
    zlt ((x2 + (Int.tmod (x3 + 1) (mo_corners x1)))) fun v24 =>
    zck (0 ≤ v24 ∧ v24 < 64) <|
    zck (0 ≤ v21 ∧ v21 < 64) <|
    zlt (((mo_cornerX v24) - (mo_cornerX v21))) fun v27 =>
    zck (0 ≤ v24 ∧ v24 < 64) <|
    zck (0 ≤ v21 ∧ v21 < 64) <|
    zlt (((mo_cornerY v24) - (mo_cornerY v21))) fun v30 =>
    zck (0 ≤ x1 ∧ x1 < 8) <|
    zb1 (f_X7_steps v27 v30 (mo_longest x1)) fun r32 =>
    zb4 (zlp (fun z => f_X7_underlays_L104 mo_corners mo_cornerX mo_cornerY mo_longest x1 x2 x3 v21 v27 v30 r32 z.1 z.2.1 z.2.2.1 z.2.2.2) zFU (1, mo_pointX, mo_pointY, mo_points)) fun w37 w38 w39 w40 =>
    some (.inl ((x3 + 1), w38, w39, w40))
def f_X7_underlays (mo_corners : Int → Int) (mo_cornerX : Int → Int) (mo_cornerY : Int → Int) (mo_longest : Int → Int) (mo_pointX : Int → Int) (mo_pointY : Int → Int) (mo_points : Int) (p1 : Int) : Option ((Int → Int) × (Int → Int) × Int) :=
  zlt ((8 * p1)) fun v42 =>
  zck (0 ≤ v42 ∧ v42 < 64) <|
  zck (0 ≤ v42 ∧ v42 < 64) <|
  zb3 (f_X7_point mo_pointX mo_pointY mo_points (mo_cornerX v42) (mo_cornerY v42)) fun a45 a46 u47 =>
  zb4 (zlp (fun z => f_X7_underlays_L23 mo_corners mo_cornerX mo_cornerY mo_longest p1 v42 z.1 z.2.1 z.2.2.1 z.2.2.2) zFU (0, a45, a46, u47)) fun w51 w52 w53 w54 =>
  some (w52, w53, w54)
def f_X7_column_L118 (mo_cornerX : Int → Int) (mo_cornerY : Int → Int) (mo_density : Int → Int) (x2 : Int) (x3 : Int) (x4 : Int) (x5 : Int) (x6 : Int) (x7 : Int) (x8 : Int) (mo_pointX : Int → Int) (mo_pointY : Int → Int) (mo_points : Int) : Option ((Int × (Int → Int) × (Int → Int) × Int) ⊕ (Int × (Int → Int) × (Int → Int) × Int)) :=
  zck (zR x8 ∧ zR x7) <|
  if x7 < x8 then
    some (.inr (x8, mo_pointX, mo_pointY, mo_points))
  else
    zck (0 ≤ x2 ∧ x2 < 64) <|
    zb1 (f_X7_down (x3 * x8) x7) fun r4 =>
    zck (0 ≤ x2 ∧ x2 < 64) <|
    zb1 (f_X7_down (x4 * x8) x7) fun r9 =>
    zb3 (f_X7_point mo_pointX mo_pointY mo_points ((mo_cornerX x2) + r4) ((mo_cornerY x2) + r9)) fun a13 a14 u15 =>
    zck (0 ≤ (x2 + 3) ∧ (x2 + 3) < 64) <|
    zb1 (f_X7_down (x5 * x8) x7) fun r19 =>
    zck (0 ≤ (x2 + 3) ∧ (x2 + 3) < 64) <|
    zb1 (f_X7_down (x6 * x8) x7) fun r24 =>
    zb3 (f_X7_point a13 a14 u15 ((mo_cornerX (x2 + 3)) + r19) ((mo_cornerY (x2 + 3)) + r24)) fun a28 a29 u30 =>
    some (.inl ((x8 + 1), a28, a29, u30))
def f_X7_column (mo_cornerX : Int → Int) (mo_cornerY : Int → Int) (mo_density : Int → Int) (mo_pointX : Int → Int) (mo_pointY : Int → Int) (mo_points : Int) (p1 : Int) : Option ((Int → Int) × (Int → Int) × Int) :=
  zlt ((8 * p1)) fun v33 =>
  zck (0 ≤ (v33 + 1) ∧ (v33 + 1) < 64) <|
  zck (0 ≤ v33 ∧ v33 < 64) <|
  zlt (((mo_cornerX (v33 + 1)) - (mo_cornerX v33))) fun v36 =>
  zck (0 ≤ (v33 + 1) ∧ (v33 + 1) < 64) <|
  zck (0 ≤ v33 ∧ v33 < 64) <|
  zlt (((mo_cornerY (v33 + 1)) - (mo_cornerY v33))) fun v39 =>
  zck (0 ≤ (v33 + 2) ∧ (v33 + 2) < 64) <|
  zck (0 ≤ (v33 + 3) ∧ (v33 + 3) < 64) <|
  zlt (((mo_cornerX (v33 + 2)) - (mo_cornerX (v33 + 3)))) fun v42 =>
  zck (0 ≤ (v33 + 2) ∧ (v33 + 2) < 64) <|
  zck (0 ≤ (v33 + 3) ∧ (v33 + 3) < 64) <|
  zlt (((mo_cornerY (v33 + 2)) - (mo_cornerY (v33 + 3)))) fun v45 =>
  zb1 (f_X7_size v36) fun r46 =>
  zb1 (f_X7_size v39) fun r50 =>
  zb1 (f_X7_greater r46 r50) fun r54 =>
  zb1 (f_X7_size v42) fun r58 =>
  zb1 (f_X7_size v45) fun r62 =>
  zb1 (f_X7_greater r58 r62) fun r66 =>
  zb1 (f_X7_greater r54 r66) fun r70 =>
  zck (0 ≤ p1 ∧ p1 < 8) <|
  zck ((zR r70 ∧ zR (mo_density p1)) ∧ (mo_density p1) ≠ 0) <|
  zlt (((Int.tdiv r70 (mo_density p1)) + 1)) fun v76 =>
  zb4 (zlp (fun z => f_X7_column_L118 mo_cornerX mo_cornerY mo_density v33 v36 v39 v42 v45 v76 z.1 z.2.1 z.2.2.1 z.2.2.2) zFU (0, mo_pointX, mo_pointY, mo_points)) fun w78 w79 w80 w81 =>
  some (w79, w80, w81)
def f_X7_finds_56 (mo_isColumn : Int → Int) (mo_corners : Int → Int) (mo_cornerX : Int → Int) (mo_cornerY : Int → Int) (mo_density : Int → Int) (mo_longest : Int → Int) (mo_shift : Int → Int) (mo_pull : Int → Int) (mo_hasUnderlay : Int → Int) (mo_pointX : Int → Int) (mo_pointY : Int → Int) (mo_points : Int) (mo_crossing : Int → Int) (mo_crossings : Int) (mo_rowY : Int) (x1 : Int) : Option ((Int → Int) × (Int → Int) × Int × (Int → Int) × Int × Int) :=
  zb6 (f_X7_rows mo_corners mo_cornerX mo_cornerY mo_density mo_longest mo_shift mo_pull mo_pointX mo_pointY mo_points mo_crossing mo_crossings mo_rowY x1) fun a1 a2 u3 a4 u5 u6 =>
  some (a1, a2, u3, a4, u5, u6)
def f_X7_finds (mo_isColumn : Int → Int) (mo_corners : Int → Int) (mo_cornerX : Int → Int) (mo_cornerY : Int → Int) (mo_density : Int → Int) (mo_longest : Int → Int) (mo_shift : Int → Int) (mo_pull : Int → Int) (mo_hasUnderlay : Int → Int) (mo_pointX : Int → Int) (mo_pointY : Int → Int) (mo_points : Int) (mo_crossing : Int → Int) (mo_crossings : Int) (mo_rowY : Int) (p1 : Int) : Option ((Int → Int) × (Int → Int) × Int × (Int → Int) × Int × Int) :=
  zck (0 ≤ p1 ∧ p1 < 8) <|
  zck (zR (mo_isColumn p1)) <|
  if (mo_isColumn p1) = 0 then
    zck (0 ≤ p1 ∧ p1 < 8) <|
    zck (zR (mo_corners p1)) <|
    if (mo_corners p1) ≤ 2 then
      some (mo_pointX, mo_pointY, 0, mo_crossing, mo_crossings, mo_rowY)
    else
      zck (0 ≤ p1 ∧ p1 < 8) <|
      zck (zR (mo_hasUnderlay p1)) <|
      if (mo_hasUnderlay p1) = 0 then
        f_X7_finds_56 mo_isColumn mo_corners mo_cornerX mo_cornerY mo_density mo_longest mo_shift mo_pull mo_hasUnderlay mo_pointX mo_pointY 0 mo_crossing mo_crossings mo_rowY p1
      else
        zb3 (f_X7_underlays mo_corners mo_cornerX mo_cornerY mo_longest mo_pointX mo_pointY 0 p1) fun a19 a20 u21 =>
        f_X7_finds_56 mo_isColumn mo_corners mo_cornerX mo_cornerY mo_density mo_longest mo_shift mo_pull mo_hasUnderlay a19 a20 u21 mo_crossing mo_crossings mo_rowY p1
  else
    zck (0 ≤ p1 ∧ p1 < 8) <|
    zck (zR (mo_corners p1)) <|
    if (mo_corners p1) = 4 then
      zb3 (f_X7_column mo_cornerX mo_cornerY mo_density mo_pointX mo_pointY 0 p1) fun a27 a28 u29 =>
      some (a27, a28, u29, mo_crossing, mo_crossings, mo_rowY)
    else
      some (mo_pointX, mo_pointY, 0, mo_crossing, mo_crossings, mo_rowY)
def f_X7_command (mo_commands : Int) (mo_kind : Int → Int) (mo_byX : Int → Int) (mo_byY : Int → Int) (mo_fieldOf : Int → Int) (mo_needleX : Int) (mo_needleY : Int) (p1 : Int) (p2 : Int) (p3 : Int) (p4 : Int) : Option (Int × (Int → Int) × (Int → Int) × (Int → Int) × (Int → Int) × Int × Int) :=
  zck (0 ≤ mo_commands ∧ mo_commands < 20000) <|
  zlt (zup mo_kind mo_commands p1) fun a3 =>
  zck (0 ≤ mo_commands ∧ mo_commands < 20000) <|
  zlt (zup mo_byX mo_commands p2) fun a6 =>
  zck (0 ≤ mo_commands ∧ mo_commands < 20000) <|
  zlt (zup mo_byY mo_commands p3) fun a9 =>
  zck (0 ≤ mo_commands ∧ mo_commands < 20000) <|
  zlt (zup mo_fieldOf mo_commands p4) fun a12 =>
  zlt ((mo_commands + 1)) fun v13 =>
  zlt ((mo_needleX + p2)) fun v15 =>
  zlt ((mo_needleY + p3)) fun v17 =>
  some (v13, a3, a6, a9, a12, v15, v17)
def f_X7_squareTo (mo_needleX : Int) (mo_needleY : Int) (p1 : Int) (p2 : Int) : Option (Int) :=
  some (((p1 - mo_needleX) * (p1 - mo_needleX)) + ((p2 - mo_needleY) * (p2 - mo_needleY)))
def f_X7_nearest_L8_115 (mo_fields : Int) (mo_colour : Int → Int) (mo_layer : Int → Int) (mo_isColumn : Int → Int) (mo_corners : Int → Int) (mo_cornerX : Int → Int) (mo_cornerY : Int → Int) (mo_density : Int → Int) (mo_longest : Int → Int) (mo_shift : Int → Int) (mo_pull : Int → Int) (mo_hasUnderlay : Int → Int) (mo_pointX : Int → Int) (mo_pointY : Int → Int) (mo_points : Int) (mo_crossing : Int → Int) (mo_crossings : Int) (mo_needleX : Int) (mo_needleY : Int) (mo_isSewn : Int → Int) (mo_rowY : Int) (x1 : Int) (x2 : Int) (x4 : Int) (x5 : Int) (x6 : Int) (x7 : Int) (s0 : Int) : Option ((Int × Int × Int × (Int → Int) × (Int → Int) × Int × (Int → Int) × Int × Int) ⊕ (Int × Int × Int × (Int → Int) × (Int → Int) × Int × (Int → Int) × Int × Int)) :=
  zck (zR x7) <|
  if x7 = 0 then
    some (.inl (s0, x4, (x5 + 1), mo_pointX, mo_pointY, mo_points, mo_crossing, mo_crossings, mo_rowY))
  else
    some (.inl (s0, x6, (x5 + 1), mo_pointX, mo_pointY, mo_points, mo_crossing, mo_crossings, mo_rowY))
def f_X7_nearest_L8_102 (mo_fields : Int) (mo_colour : Int → Int) (mo_layer : Int → Int) (mo_isColumn : Int → Int) (mo_corners : Int → Int) (mo_cornerX : Int → Int) (mo_cornerY : Int → Int) (mo_density : Int → Int) (mo_longest : Int → Int) (mo_shift : Int → Int) (mo_pull : Int → Int) (mo_hasUnderlay : Int → Int) (mo_pointX : Int → Int) (mo_pointY : Int → Int) (mo_points : Int) (mo_crossing : Int → Int) (mo_crossings : Int) (mo_needleX : Int) (mo_needleY : Int) (mo_isSewn : Int → Int) (mo_rowY : Int) (x1 : Int) (x2 : Int) (x3 : Int) (x4 : Int) (x5 : Int) (x6 : Int) (s0 : Int) : Option ((Int × Int × Int × (Int → Int) × (Int → Int) × Int × (Int → Int) × Int × Int) ⊕ (Int × Int × Int × (Int → Int) × (Int → Int) × Int × (Int → Int) × Int × Int)) :=
  zck (zR s0) <|
  if s0 = 0 then
    f_X7_nearest_L8_115 mo_fields mo_colour mo_layer mo_isColumn mo_corners mo_cornerX mo_cornerY mo_density mo_longest mo_shift mo_pull mo_hasUnderlay mo_pointX mo_pointY mo_points mo_crossing mo_crossings mo_needleX mo_needleY mo_isSewn mo_rowY x1 x2 x4 x5 x6 s0 x3
  else
    f_X7_nearest_L8_115 mo_fields mo_colour mo_layer mo_isColumn mo_corners mo_cornerX mo_cornerY mo_density mo_longest mo_shift mo_pull mo_hasUnderlay mo_pointX mo_pointY mo_points mo_crossing mo_crossings mo_needleX mo_needleY mo_isSewn mo_rowY x1 x2 x4 x5 x6 s0 x5
def f_X7_nearest_L8_97 (mo_fields : Int) (mo_colour : Int → Int) (mo_layer : Int → Int) (mo_isColumn : Int → Int) (mo_corners : Int → Int) (mo_cornerX : Int → Int) (mo_cornerY : Int → Int) (mo_density : Int → Int) (mo_longest : Int → Int) (mo_shift : Int → Int) (mo_pull : Int → Int) (mo_hasUnderlay : Int → Int) (mo_pointX : Int → Int) (mo_pointY : Int → Int) (mo_points : Int) (mo_crossing : Int → Int) (mo_crossings : Int) (mo_needleX : Int) (mo_needleY : Int) (mo_isSewn : Int → Int) (mo_rowY : Int) (x1 : Int) (x2 : Int) (x3 : Int) (x4 : Int) (x5 : Int) (x6 : Int) : Option ((Int × Int × Int × (Int → Int) × (Int → Int) × Int × (Int → Int) × Int × Int) ⊕ (Int × Int × Int × (Int → Int) × (Int → Int) × Int × (Int → Int) × Int × Int)) :=
  f_X7_nearest_L8_102 mo_fields mo_colour mo_layer mo_isColumn mo_corners mo_cornerX mo_cornerY mo_density mo_longest mo_shift mo_pull mo_hasUnderlay mo_pointX mo_pointY mo_points mo_crossing mo_crossings mo_needleX mo_needleY mo_isSewn mo_rowY x1 x2 x3 x4 x5 x6 1
def f_X7_nearest_L8_54 (mo_fields : Int) (mo_colour : Int → Int) (mo_layer : Int → Int) (mo_isColumn : Int → Int) (mo_corners : Int → Int) (mo_cornerX : Int → Int) (mo_cornerY : Int → Int) (mo_density : Int → Int) (mo_longest : Int → Int) (mo_shift : Int → Int) (mo_pull : Int → Int) (mo_hasUnderlay : Int → Int) (mo_pointX : Int → Int) (mo_pointY : Int → Int) (mo_points : Int) (mo_crossing : Int → Int) (mo_crossings : Int) (mo_needleX : Int) (mo_needleY : Int) (mo_isSewn : Int → Int) (mo_rowY : Int) (x1 : Int) (x2 : Int) (x3 : Int) (x4 : Int) (x5 : Int) : Option ((Int × Int × Int × (Int → Int) × (Int → Int) × Int × (Int → Int) × Int × Int) ⊕ (Int × Int × Int × (Int → Int) × (Int → Int) × Int × (Int → Int) × Int × Int)) :=
  zb6 (f_X7_finds mo_isColumn mo_corners mo_cornerX mo_cornerY mo_density mo_longest mo_shift mo_pull mo_hasUnderlay mo_pointX mo_pointY mo_points mo_crossing mo_crossings mo_rowY x5) fun a5 a6 u7 a8 u9 u10 =>
  zck (zR u7) <|
  if u7 ≤ 0 then
    some (.inl (x3, x4, (x5 + 1), a5, a6, u7, a8, u9, u10))
  else
    zb1 (f_X7_squareTo mo_needleX mo_needleY (a5 0) (a6 0)) fun r15 =>
    zck (zR x3) <|
    if x3 = (-1) then
      f_X7_nearest_L8_97 mo_fields mo_colour mo_layer mo_isColumn mo_corners mo_cornerX mo_cornerY mo_density mo_longest mo_shift mo_pull mo_hasUnderlay a5 a6 u7 a8 u9 mo_needleX mo_needleY mo_isSewn u10 x1 x2 x3 x4 x5 r15
    else
      zck (zR r15 ∧ zR x4) <|
      if x4 ≤ r15 then
        f_X7_nearest_L8_102 mo_fields mo_colour mo_layer mo_isColumn mo_corners mo_cornerX mo_cornerY mo_density mo_longest mo_shift mo_pull mo_hasUnderlay a5 a6 u7 a8 u9 mo_needleX mo_needleY mo_isSewn u10 x1 x2 x3 x4 x5 r15 0
      else
        f_X7_nearest_L8_97 mo_fields mo_colour mo_layer mo_isColumn mo_corners mo_cornerX mo_cornerY mo_density mo_longest mo_shift mo_pull mo_hasUnderlay a5 a6 u7 a8 u9 mo_needleX mo_needleY mo_isSewn u10 x1 x2 x3 x4 x5 r15
def f_X7_nearest_L8 (mo_fields : Int) (mo_colour : Int → Int) (mo_layer : Int → Int) (mo_isColumn : Int → Int) (mo_corners : Int → Int) (mo_cornerX : Int → Int) (mo_cornerY : Int → Int) (mo_density : Int → Int) (mo_longest : Int → Int) (mo_shift : Int → Int) (mo_pull : Int → Int) (mo_hasUnderlay : Int → Int) (mo_needleX : Int) (mo_needleY : Int) (mo_isSewn : Int → Int) (x1 : Int) (x2 : Int) (x3 : Int) (x4 : Int) (x5 : Int) (mo_pointX : Int → Int) (mo_pointY : Int → Int) (mo_points : Int) (mo_crossing : Int → Int) (mo_crossings : Int) (mo_rowY : Int) : Option ((Int × Int × Int × (Int → Int) × (Int → Int) × Int × (Int → Int) × Int × Int) ⊕ (Int × Int × Int × (Int → Int) × (Int → Int) × Int × (Int → Int) × Int × Int)) :=
  zck (zR x5 ∧ zR mo_fields) <|
  if mo_fields ≤ x5 then
    some (.inr (x3, x4, x5, mo_pointX, mo_pointY, mo_points, mo_crossing, mo_crossings, mo_rowY))
  else
    zck (0 ≤ x5 ∧ x5 < 8) <|
    zck (zR (mo_isSewn x5)) <|
    if (mo_isSewn x5) = 0 then
      zck (0 ≤ x5 ∧ x5 < 8) <|
      zck (zR (mo_layer x5) ∧ zR x1) <|
      if (mo_layer x5) = x1 then
        zck (zR x2) <|
        if x2 = (-1) then
          f_X7_nearest_L8_54 mo_fields mo_colour mo_layer mo_isColumn mo_corners mo_cornerX mo_cornerY mo_density mo_longest mo_shift mo_pull mo_hasUnderlay mo_pointX mo_pointY mo_points mo_crossing mo_crossings mo_needleX mo_needleY mo_isSewn mo_rowY x1 x2 x3 x4 x5
        else
          zck (0 ≤ x5 ∧ x5 < 8) <|
          zck (zR (mo_colour x5) ∧ zR x2) <|
          if (mo_colour x5) = x2 then
            f_X7_nearest_L8_54 mo_fields mo_colour mo_layer mo_isColumn mo_corners mo_cornerX mo_cornerY mo_density mo_longest mo_shift mo_pull mo_hasUnderlay mo_pointX mo_pointY mo_points mo_crossing mo_crossings mo_needleX mo_needleY mo_isSewn mo_rowY x1 x2 x3 x4 x5
          else
            some (.inl (x3, x4, (x5 + 1), mo_pointX, mo_pointY, mo_points, mo_crossing, mo_crossings, mo_rowY))
      else
        some (.inl (x3, x4, (x5 + 1), mo_pointX, mo_pointY, mo_points, mo_crossing, mo_crossings, mo_rowY))
    else
      some (.inl (x3, x4, (x5 + 1), mo_pointX, mo_pointY, mo_points, mo_crossing, mo_crossings, mo_rowY))
def f_X7_nearest (mo_fields : Int) (mo_colour : Int → Int) (mo_layer : Int → Int) (mo_isColumn : Int → Int) (mo_corners : Int → Int) (mo_cornerX : Int → Int) (mo_cornerY : Int → Int) (mo_density : Int → Int) (mo_longest : Int → Int) (mo_shift : Int → Int) (mo_pull : Int → Int) (mo_hasUnderlay : Int → Int) (mo_pointX : Int → Int) (mo_pointY : Int → Int) (mo_points : Int) (mo_crossing : Int → Int) (mo_crossings : Int) (mo_needleX : Int) (mo_needleY : Int) (mo_isSewn : Int → Int) (mo_rowY : Int) (p1 : Int) (p2 : Int) : Option (Int × (Int → Int) × (Int → Int) × Int × (Int → Int) × Int × Int) :=
  zb9 (zlp (fun z => f_X7_nearest_L8 mo_fields mo_colour mo_layer mo_isColumn mo_corners mo_cornerX mo_cornerY mo_density mo_longest mo_shift mo_pull mo_hasUnderlay mo_needleX mo_needleY mo_isSewn p1 p2 z.1 z.2.1 z.2.2.1 z.2.2.2.1 z.2.2.2.2.1 z.2.2.2.2.2.1 z.2.2.2.2.2.2.1 z.2.2.2.2.2.2.2.1 z.2.2.2.2.2.2.2.2) zFU ((-1), 0, 0, mo_pointX, mo_pointY, mo_points, mo_crossing, mo_crossings, mo_rowY)) fun w37 w38 w39 w40 w41 w42 w43 w44 w45 =>
  some (w37, w40, w41, w42, w43, w44, w45)
def f_X7_sews_L101_174 (mo_colour : Int → Int) (mo_isColumn : Int → Int) (mo_corners : Int → Int) (mo_cornerX : Int → Int) (mo_cornerY : Int → Int) (mo_density : Int → Int) (mo_longest : Int → Int) (mo_shift : Int → Int) (mo_pull : Int → Int) (mo_hasUnderlay : Int → Int) (mo_bound : Int) (mo_pointX : Int → Int) (mo_pointY : Int → Int) (mo_points : Int) (mo_crossing : Int → Int) (mo_crossings : Int) (mo_commands : Int) (mo_kind : Int → Int) (mo_byX : Int → Int) (mo_byY : Int → Int) (mo_fieldOf : Int → Int) (mo_needleX : Int) (mo_needleY : Int) (mo_rowY : Int) (x1 : Int) (x4 : Int) (x5 : Int) (x6 : Int) (s1 : Int) : Option ((Int × Int × (Int → Int) × (Int → Int) × (Int → Int) × (Int → Int) × Int × Int) ⊕ (Int × Int × (Int → Int) × (Int → Int) × (Int → Int) × (Int → Int) × Int × Int)) :=
  zb7 (f_X7_command mo_commands mo_kind mo_byX mo_byY mo_fieldOf mo_needleX mo_needleY s1 x5 x6 x1) fun u1 a2 a3 a4 a5 u6 u7 =>
  some (.inl ((x4 + 1), u1, a2, a3, a4, a5, u6, u7))
def f_X7_sews_L101_173 (mo_colour : Int → Int) (mo_isColumn : Int → Int) (mo_corners : Int → Int) (mo_cornerX : Int → Int) (mo_cornerY : Int → Int) (mo_density : Int → Int) (mo_longest : Int → Int) (mo_shift : Int → Int) (mo_pull : Int → Int) (mo_hasUnderlay : Int → Int) (mo_bound : Int) (mo_pointX : Int → Int) (mo_pointY : Int → Int) (mo_points : Int) (mo_crossing : Int → Int) (mo_crossings : Int) (mo_commands : Int) (mo_kind : Int → Int) (mo_byX : Int → Int) (mo_byY : Int → Int) (mo_fieldOf : Int → Int) (mo_needleX : Int) (mo_needleY : Int) (mo_rowY : Int) (x1 : Int) (x4 : Int) (x5 : Int) (x6 : Int) : Option ((Int × Int × (Int → Int) × (Int → Int) × (Int → Int) × (Int → Int) × Int × Int) ⊕ (Int × Int × (Int → Int) × (Int → Int) × (Int → Int) × (Int → Int) × Int × Int)) :=
  f_X7_sews_L101_174 mo_colour mo_isColumn mo_corners mo_cornerX mo_cornerY mo_density mo_longest mo_shift mo_pull mo_hasUnderlay mo_bound mo_pointX mo_pointY mo_points mo_crossing mo_crossings mo_commands mo_kind mo_byX mo_byY mo_fieldOf mo_needleX mo_needleY mo_rowY x1 x4 x5 x6 1
def f_X7_sews_L101_148 (mo_colour : Int → Int) (mo_isColumn : Int → Int) (mo_corners : Int → Int) (mo_cornerX : Int → Int) (mo_cornerY : Int → Int) (mo_density : Int → Int) (mo_longest : Int → Int) (mo_shift : Int → Int) (mo_pull : Int → Int) (mo_hasUnderlay : Int → Int) (mo_bound : Int) (mo_pointX : Int → Int) (mo_pointY : Int → Int) (mo_points : Int) (mo_crossing : Int → Int) (mo_crossings : Int) (mo_commands : Int) (mo_kind : Int → Int) (mo_byX : Int → Int) (mo_byY : Int → Int) (mo_fieldOf : Int → Int) (mo_needleX : Int) (mo_needleY : Int) (mo_rowY : Int) (x1 : Int) (x4 : Int) (x5 : Int) (x6 : Int) : Option ((Int × Int × (Int → Int) × (Int → Int) × (Int → Int) × (Int → Int) × Int × Int) ⊕ (Int × Int × (Int → Int) × (Int → Int) × (Int → Int) × (Int → Int) × Int × Int)) :=
  zb1 (f_X7_size x5) fun r10 =>
  zck (zR r10) <|
  if 12 < r10 then
    f_X7_sews_L101_173 mo_colour mo_isColumn mo_corners mo_cornerX mo_cornerY mo_density mo_longest mo_shift mo_pull mo_hasUnderlay mo_bound mo_pointX mo_pointY mo_points mo_crossing mo_crossings mo_commands mo_kind mo_byX mo_byY mo_fieldOf mo_needleX mo_needleY mo_rowY x1 x4 x5 x6
  else
    zb1 (f_X7_size x6) fun r16 =>
    zck (zR r16) <|
    if 12 < r16 then
      f_X7_sews_L101_173 mo_colour mo_isColumn mo_corners mo_cornerX mo_cornerY mo_density mo_longest mo_shift mo_pull mo_hasUnderlay mo_bound mo_pointX mo_pointY mo_points mo_crossing mo_crossings mo_commands mo_kind mo_byX mo_byY mo_fieldOf mo_needleX mo_needleY mo_rowY x1 x4 x5 x6
    else
      f_X7_sews_L101_174 mo_colour mo_isColumn mo_corners mo_cornerX mo_cornerY mo_density mo_longest mo_shift mo_pull mo_hasUnderlay mo_bound mo_pointX mo_pointY mo_points mo_crossing mo_crossings mo_commands mo_kind mo_byX mo_byY mo_fieldOf mo_needleX mo_needleY mo_rowY x1 x4 x5 x6 0
def f_X7_sews_L101 (mo_colour : Int → Int) (mo_isColumn : Int → Int) (mo_corners : Int → Int) (mo_cornerX : Int → Int) (mo_cornerY : Int → Int) (mo_density : Int → Int) (mo_longest : Int → Int) (mo_shift : Int → Int) (mo_pull : Int → Int) (mo_hasUnderlay : Int → Int) (mo_bound : Int) (mo_pointX : Int → Int) (mo_pointY : Int → Int) (mo_points : Int) (mo_crossing : Int → Int) (mo_crossings : Int) (mo_rowY : Int) (x1 : Int) (x4 : Int) (mo_commands : Int) (mo_kind : Int → Int) (mo_byX : Int → Int) (mo_byY : Int → Int) (mo_fieldOf : Int → Int) (mo_needleX : Int) (mo_needleY : Int) : Option ((Int × Int × (Int → Int) × (Int → Int) × (Int → Int) × (Int → Int) × Int × Int) ⊕ (Int × Int × (Int → Int) × (Int → Int) × (Int → Int) × (Int → Int) × Int × Int)) :=
  zck (zR x4 ∧ zR mo_points) <|
  if mo_points ≤ x4 then
    some (.inr (x4, mo_commands, mo_kind, mo_byX, mo_byY, mo_fieldOf, mo_needleX, mo_needleY))
  else
    zck (0 ≤ x4 ∧ x4 < 4096) <|
    zlt (((mo_pointX x4) - mo_needleX)) fun v25 =>
    zck (0 ≤ x4 ∧ x4 < 4096) <|
    zlt (((mo_pointY x4) - mo_needleY)) fun v27 =>
    zck (zR v25) <|
    if v25 = 0 then
      zck (zR v27) <|
      if v27 = 0 then
        some (.inl ((x4 + 1), mo_commands, mo_kind, mo_byX, mo_byY, mo_fieldOf, mo_needleX, mo_needleY))
      else
        f_X7_sews_L101_148 mo_colour mo_isColumn mo_corners mo_cornerX mo_cornerY mo_density mo_longest mo_shift mo_pull mo_hasUnderlay mo_bound mo_pointX mo_pointY mo_points mo_crossing mo_crossings mo_commands mo_kind mo_byX mo_byY mo_fieldOf mo_needleX mo_needleY mo_rowY x1 x4 v25 v27
    else
      f_X7_sews_L101_148 mo_colour mo_isColumn mo_corners mo_cornerX mo_cornerY mo_density mo_longest mo_shift mo_pull mo_hasUnderlay mo_bound mo_pointX mo_pointY mo_points mo_crossing mo_crossings mo_commands mo_kind mo_byX mo_byY mo_fieldOf mo_needleX mo_needleY mo_rowY x1 x4 v25 v27
def f_X7_sews_98 (mo_colour : Int → Int) (mo_isColumn : Int → Int) (mo_corners : Int → Int) (mo_cornerX : Int → Int) (mo_cornerY : Int → Int) (mo_density : Int → Int) (mo_longest : Int → Int) (mo_shift : Int → Int) (mo_pull : Int → Int) (mo_hasUnderlay : Int → Int) (mo_bound : Int) (mo_pointX : Int → Int) (mo_pointY : Int → Int) (mo_points : Int) (mo_crossing : Int → Int) (mo_crossings : Int) (mo_commands : Int) (mo_kind : Int → Int) (mo_byX : Int → Int) (mo_byY : Int → Int) (mo_fieldOf : Int → Int) (mo_needleX : Int) (mo_needleY : Int) (mo_rowY : Int) (x1 : Int) : Option ((Int → Int) × (Int → Int) × Int × (Int → Int) × Int × Int × (Int → Int) × (Int → Int) × (Int → Int) × (Int → Int) × Int × Int × Int) :=
  zb8 (zlp (fun z => f_X7_sews_L101 mo_colour mo_isColumn mo_corners mo_cornerX mo_cornerY mo_density mo_longest mo_shift mo_pull mo_hasUnderlay mo_bound mo_pointX mo_pointY mo_points mo_crossing mo_crossings mo_rowY x1 z.1 z.2.1 z.2.2.1 z.2.2.2.1 z.2.2.2.2.1 z.2.2.2.2.2.1 z.2.2.2.2.2.2.1 z.2.2.2.2.2.2.2) zFU (1, mo_commands, mo_kind, mo_byX, mo_byY, mo_fieldOf, mo_needleX, mo_needleY)) fun w33 w34 w35 w36 w37 w38 w39 w40 =>
  some (mo_pointX, mo_pointY, mo_points, mo_crossing, mo_crossings, w34, w35, w36, w37, w38, w39, w40, mo_rowY)
def f_X7_sews_66 (mo_colour : Int → Int) (mo_isColumn : Int → Int) (mo_corners : Int → Int) (mo_cornerX : Int → Int) (mo_cornerY : Int → Int) (mo_density : Int → Int) (mo_longest : Int → Int) (mo_shift : Int → Int) (mo_pull : Int → Int) (mo_hasUnderlay : Int → Int) (mo_bound : Int) (mo_pointX : Int → Int) (mo_pointY : Int → Int) (mo_points : Int) (mo_crossing : Int → Int) (mo_crossings : Int) (mo_commands : Int) (mo_kind : Int → Int) (mo_byX : Int → Int) (mo_byY : Int → Int) (mo_fieldOf : Int → Int) (mo_needleX : Int) (mo_needleY : Int) (mo_rowY : Int) (x1 : Int) (x3 : Int) : Option ((Int → Int) × (Int → Int) × Int × (Int → Int) × Int × Int × (Int → Int) × (Int → Int) × (Int → Int) × (Int → Int) × Int × Int × Int) :=
  zck (zR x3) <|
  if x3 ≤ 0 then
    f_X7_sews_98 mo_colour mo_isColumn mo_corners mo_cornerX mo_cornerY mo_density mo_longest mo_shift mo_pull mo_hasUnderlay mo_bound mo_pointX mo_pointY mo_points mo_crossing mo_crossings mo_commands mo_kind mo_byX mo_byY mo_fieldOf mo_needleX mo_needleY mo_rowY x1
  else
    zb7 (f_X7_command mo_commands mo_kind mo_byX mo_byY mo_fieldOf mo_needleX mo_needleY 1 ((mo_pointX 0) - mo_needleX) ((mo_pointY 0) - mo_needleY) x1) fun u44 a45 a46 a47 a48 u49 u50 =>
    f_X7_sews_98 mo_colour mo_isColumn mo_corners mo_cornerX mo_cornerY mo_density mo_longest mo_shift mo_pull mo_hasUnderlay mo_bound mo_pointX mo_pointY mo_points mo_crossing mo_crossings u44 a45 a46 a47 a48 u49 u50 mo_rowY x1
def f_X7_sews_28 (mo_colour : Int → Int) (mo_isColumn : Int → Int) (mo_corners : Int → Int) (mo_cornerX : Int → Int) (mo_cornerY : Int → Int) (mo_density : Int → Int) (mo_longest : Int → Int) (mo_shift : Int → Int) (mo_pull : Int → Int) (mo_hasUnderlay : Int → Int) (mo_bound : Int) (mo_pointX : Int → Int) (mo_pointY : Int → Int) (mo_points : Int) (mo_crossing : Int → Int) (mo_crossings : Int) (mo_commands : Int) (mo_kind : Int → Int) (mo_byX : Int → Int) (mo_byY : Int → Int) (mo_fieldOf : Int → Int) (mo_needleX : Int) (mo_needleY : Int) (mo_rowY : Int) (x1 : Int) : Option ((Int → Int) × (Int → Int) × Int × (Int → Int) × Int × Int × (Int → Int) × (Int → Int) × (Int → Int) × (Int → Int) × Int × Int × Int) :=
  zb1 (f_X7_squareTo mo_needleX mo_needleY (mo_pointX 0) (mo_pointY 0)) fun r53 =>
  zck (zR r53 ∧ zR (mo_bound * mo_bound)) <|
  if r53 ≤ (mo_bound * mo_bound) then
    f_X7_sews_66 mo_colour mo_isColumn mo_corners mo_cornerX mo_cornerY mo_density mo_longest mo_shift mo_pull mo_hasUnderlay mo_bound mo_pointX mo_pointY mo_points mo_crossing mo_crossings mo_commands mo_kind mo_byX mo_byY mo_fieldOf mo_needleX mo_needleY mo_rowY x1 r53
  else
    zb7 (f_X7_command mo_commands mo_kind mo_byX mo_byY mo_fieldOf mo_needleX mo_needleY 2 0 0 (-1)) fun u59 a60 a61 a62 a63 u64 u65 =>
    f_X7_sews_66 mo_colour mo_isColumn mo_corners mo_cornerX mo_cornerY mo_density mo_longest mo_shift mo_pull mo_hasUnderlay mo_bound mo_pointX mo_pointY mo_points mo_crossing mo_crossings u59 a60 a61 a62 a63 u64 u65 mo_rowY x1 r53
def f_X7_sews (mo_colour : Int → Int) (mo_isColumn : Int → Int) (mo_corners : Int → Int) (mo_cornerX : Int → Int) (mo_cornerY : Int → Int) (mo_density : Int → Int) (mo_longest : Int → Int) (mo_shift : Int → Int) (mo_pull : Int → Int) (mo_hasUnderlay : Int → Int) (mo_bound : Int) (mo_pointX : Int → Int) (mo_pointY : Int → Int) (mo_points : Int) (mo_crossing : Int → Int) (mo_crossings : Int) (mo_commands : Int) (mo_kind : Int → Int) (mo_byX : Int → Int) (mo_byY : Int → Int) (mo_fieldOf : Int → Int) (mo_needleX : Int) (mo_needleY : Int) (mo_rowY : Int) (p1 : Int) (p2 : Int) : Option ((Int → Int) × (Int → Int) × Int × (Int → Int) × Int × Int × (Int → Int) × (Int → Int) × (Int → Int) × (Int → Int) × Int × Int × Int) :=
  zb6 (f_X7_finds mo_isColumn mo_corners mo_cornerX mo_cornerY mo_density mo_longest mo_shift mo_pull mo_hasUnderlay mo_pointX mo_pointY mo_points mo_crossing mo_crossings mo_rowY p1) fun a68 a69 u70 a71 u72 u73 =>
  zck (zR p2) <|
  if p2 = (-1) then
    f_X7_sews_28 mo_colour mo_isColumn mo_corners mo_cornerX mo_cornerY mo_density mo_longest mo_shift mo_pull mo_hasUnderlay mo_bound a68 a69 u70 a71 u72 mo_commands mo_kind mo_byX mo_byY mo_fieldOf mo_needleX mo_needleY u73 p1
  else
    zck (0 ≤ p1 ∧ p1 < 8) <|
    zck (zR p2 ∧ zR (mo_colour p1)) <|
    if p2 = (mo_colour p1) then
      f_X7_sews_28 mo_colour mo_isColumn mo_corners mo_cornerX mo_cornerY mo_density mo_longest mo_shift mo_pull mo_hasUnderlay mo_bound a68 a69 u70 a71 u72 mo_commands mo_kind mo_byX mo_byY mo_fieldOf mo_needleX mo_needleY u73 p1
    else
      zb7 (f_X7_command mo_commands mo_kind mo_byX mo_byY mo_fieldOf mo_needleX mo_needleY 3 0 0 (-1)) fun u81 a82 a83 a84 a85 u86 u87 =>
      f_X7_sews_28 mo_colour mo_isColumn mo_corners mo_cornerX mo_cornerY mo_density mo_longest mo_shift mo_pull mo_hasUnderlay mo_bound a68 a69 u70 a71 u72 u81 a82 a83 a84 a85 u86 u87 u73 p1
def f_X7_reckons_L67_101 (mo_fields : Int) (mo_colour : Int → Int) (mo_layer : Int → Int) (mo_isColumn : Int → Int) (mo_corners : Int → Int) (mo_cornerX : Int → Int) (mo_cornerY : Int → Int) (mo_density : Int → Int) (mo_longest : Int → Int) (mo_shift : Int → Int) (mo_pull : Int → Int) (mo_hasUnderlay : Int → Int) (mo_bound : Int) (mo_pointX : Int → Int) (mo_pointY : Int → Int) (mo_points : Int) (mo_crossing : Int → Int) (mo_crossings : Int) (mo_isKnown : Int) (mo_commands : Int) (mo_kind : Int → Int) (mo_byX : Int → Int) (mo_byY : Int → Int) (mo_fieldOf : Int → Int) (mo_needleX : Int) (mo_needleY : Int) (mo_isSewn : Int → Int) (mo_rowY : Int) (x1 : Int) (x2 : Int) (s0 : Int) : Option ((Int × Int × (Int → Int) × (Int → Int) × Int × (Int → Int) × Int × Int × (Int → Int) × (Int → Int) × (Int → Int) × (Int → Int) × Int × Int × (Int → Int) × Int) ⊕ (Int × Int × (Int → Int) × (Int → Int) × Int × (Int → Int) × Int × Int × (Int → Int) × (Int → Int) × (Int → Int) × (Int → Int) × Int × Int × (Int → Int) × Int)) :=
  zb13 (f_X7_sews mo_colour mo_isColumn mo_corners mo_cornerX mo_cornerY mo_density mo_longest mo_shift mo_pull mo_hasUnderlay mo_bound mo_pointX mo_pointY mo_points mo_crossing mo_crossings mo_commands mo_kind mo_byX mo_byY mo_fieldOf mo_needleX mo_needleY mo_rowY s0 x1) fun a1 a2 u3 a4 u5 u6 a7 a8 a9 a10 u11 u12 u13 =>
  zck (0 ≤ s0 ∧ s0 < 8) <|
  zlt (zup mo_isSewn s0 1) fun a18 =>
  zck (0 ≤ s0 ∧ s0 < 8) <|
  zlt ((mo_colour s0)) fun v20 =>
  zb7 (f_X7_nearest mo_fields mo_colour mo_layer mo_isColumn mo_corners mo_cornerX mo_cornerY mo_density mo_longest mo_shift mo_pull mo_hasUnderlay a1 a2 u3 a4 u5 u11 u12 a18 u13 x2 (-1)) fun r21 a22 a23 u24 a25 u26 u27 =>
  some (.inl (v20, r21, a22, a23, u24, a25, u26, u6, a7, a8, a9, a10, u11, u12, a18, u27))
def f_X7_reckons_L67_87 (mo_fields : Int) (mo_colour : Int → Int) (mo_layer : Int → Int) (mo_isColumn : Int → Int) (mo_corners : Int → Int) (mo_cornerX : Int → Int) (mo_cornerY : Int → Int) (mo_density : Int → Int) (mo_longest : Int → Int) (mo_shift : Int → Int) (mo_pull : Int → Int) (mo_hasUnderlay : Int → Int) (mo_bound : Int) (mo_pointX : Int → Int) (mo_pointY : Int → Int) (mo_points : Int) (mo_crossing : Int → Int) (mo_crossings : Int) (mo_isKnown : Int) (mo_commands : Int) (mo_kind : Int → Int) (mo_byX : Int → Int) (mo_byY : Int → Int) (mo_fieldOf : Int → Int) (mo_needleX : Int) (mo_needleY : Int) (mo_isSewn : Int → Int) (mo_rowY : Int) (x1 : Int) (x2 : Int) (x3 : Int) (s0 : Int) : Option ((Int × Int × (Int → Int) × (Int → Int) × Int × (Int → Int) × Int × Int × (Int → Int) × (Int → Int) × (Int → Int) × (Int → Int) × Int × Int × (Int → Int) × Int) ⊕ (Int × Int × (Int → Int) × (Int → Int) × Int × (Int → Int) × Int × Int × (Int → Int) × (Int → Int) × (Int → Int) × (Int → Int) × Int × Int × (Int → Int) × Int)) :=
  zck (zR s0) <|
  if s0 = (-1) then
    f_X7_reckons_L67_101 mo_fields mo_colour mo_layer mo_isColumn mo_corners mo_cornerX mo_cornerY mo_density mo_longest mo_shift mo_pull mo_hasUnderlay mo_bound mo_pointX mo_pointY mo_points mo_crossing mo_crossings mo_isKnown mo_commands mo_kind mo_byX mo_byY mo_fieldOf mo_needleX mo_needleY mo_isSewn mo_rowY x1 x2 x3
  else
    f_X7_reckons_L67_101 mo_fields mo_colour mo_layer mo_isColumn mo_corners mo_cornerX mo_cornerY mo_density mo_longest mo_shift mo_pull mo_hasUnderlay mo_bound mo_pointX mo_pointY mo_points mo_crossing mo_crossings mo_isKnown mo_commands mo_kind mo_byX mo_byY mo_fieldOf mo_needleX mo_needleY mo_isSewn mo_rowY x1 x2 s0
def f_X7_reckons_L67 (mo_fields : Int) (mo_colour : Int → Int) (mo_layer : Int → Int) (mo_isColumn : Int → Int) (mo_corners : Int → Int) (mo_cornerX : Int → Int) (mo_cornerY : Int → Int) (mo_density : Int → Int) (mo_longest : Int → Int) (mo_shift : Int → Int) (mo_pull : Int → Int) (mo_hasUnderlay : Int → Int) (mo_bound : Int) (mo_isKnown : Int) (x2 : Int) (x1 : Int) (x3 : Int) (mo_pointX : Int → Int) (mo_pointY : Int → Int) (mo_points : Int) (mo_crossing : Int → Int) (mo_crossings : Int) (mo_commands : Int) (mo_kind : Int → Int) (mo_byX : Int → Int) (mo_byY : Int → Int) (mo_fieldOf : Int → Int) (mo_needleX : Int) (mo_needleY : Int) (mo_isSewn : Int → Int) (mo_rowY : Int) : Option ((Int × Int × (Int → Int) × (Int → Int) × Int × (Int → Int) × Int × Int × (Int → Int) × (Int → Int) × (Int → Int) × (Int → Int) × Int × Int × (Int → Int) × Int) ⊕ (Int × Int × (Int → Int) × (Int → Int) × Int × (Int → Int) × Int × Int × (Int → Int) × (Int → Int) × (Int → Int) × (Int → Int) × Int × Int × (Int → Int) × Int)) :=
  zck (zR x3) <|
  if x3 = (-1) then
    some (.inr (x1, x3, mo_pointX, mo_pointY, mo_points, mo_crossing, mo_crossings, mo_commands, mo_kind, mo_byX, mo_byY, mo_fieldOf, mo_needleX, mo_needleY, mo_isSewn, mo_rowY))
  else
    zck (zR x1) <|
    if x1 = (-1) then
      f_X7_reckons_L67_87 mo_fields mo_colour mo_layer mo_isColumn mo_corners mo_cornerX mo_cornerY mo_density mo_longest mo_shift mo_pull mo_hasUnderlay mo_bound mo_pointX mo_pointY mo_points mo_crossing mo_crossings mo_isKnown mo_commands mo_kind mo_byX mo_byY mo_fieldOf mo_needleX mo_needleY mo_isSewn mo_rowY x1 x2 x3 (-1)
    else
      zb7 (f_X7_nearest mo_fields mo_colour mo_layer mo_isColumn mo_corners mo_cornerX mo_cornerY mo_density mo_longest mo_shift mo_pull mo_hasUnderlay mo_pointX mo_pointY mo_points mo_crossing mo_crossings mo_needleX mo_needleY mo_isSewn mo_rowY x2 x1) fun r37 a38 a39 u40 a41 u42 u43 =>
      f_X7_reckons_L67_87 mo_fields mo_colour mo_layer mo_isColumn mo_corners mo_cornerX mo_cornerY mo_density mo_longest mo_shift mo_pull mo_hasUnderlay mo_bound a38 a39 u40 a41 u42 mo_isKnown mo_commands mo_kind mo_byX mo_byY mo_fieldOf mo_needleX mo_needleY mo_isSewn u43 x1 x2 x3 r37
def f_X7_reckons_L55 (mo_fields : Int) (mo_colour : Int → Int) (mo_layer : Int → Int) (mo_isColumn : Int → Int) (mo_corners : Int → Int) (mo_cornerX : Int → Int) (mo_cornerY : Int → Int) (mo_density : Int → Int) (mo_longest : Int → Int) (mo_shift : Int → Int) (mo_pull : Int → Int) (mo_hasUnderlay : Int → Int) (mo_bound : Int) (mo_isKnown : Int) (x1 : Int) (x2 : Int) (mo_pointX : Int → Int) (mo_pointY : Int → Int) (mo_points : Int) (mo_crossing : Int → Int) (mo_crossings : Int) (mo_commands : Int) (mo_kind : Int → Int) (mo_byX : Int → Int) (mo_byY : Int → Int) (mo_fieldOf : Int → Int) (mo_needleX : Int) (mo_needleY : Int) (mo_isSewn : Int → Int) (mo_rowY : Int) : Option ((Int × Int × (Int → Int) × (Int → Int) × Int × (Int → Int) × Int × Int × (Int → Int) × (Int → Int) × (Int → Int) × (Int → Int) × Int × Int × (Int → Int) × Int) ⊕ (Int × Int × (Int → Int) × (Int → Int) × Int × (Int → Int) × Int × Int × (Int → Int) × (Int → Int) × (Int → Int) × (Int → Int) × Int × Int × (Int → Int) × Int)) :=
  zck (zR x2) <|
  if 4 ≤ x2 then
    some (.inr (x1, x2, mo_pointX, mo_pointY, mo_points, mo_crossing, mo_crossings, mo_commands, mo_kind, mo_byX, mo_byY, mo_fieldOf, mo_needleX, mo_needleY, mo_isSewn, mo_rowY))
  else
    zb7 (f_X7_nearest mo_fields mo_colour mo_layer mo_isColumn mo_corners mo_cornerX mo_cornerY mo_density mo_longest mo_shift mo_pull mo_hasUnderlay mo_pointX mo_pointY mo_points mo_crossing mo_crossings mo_needleX mo_needleY mo_isSewn mo_rowY x2 (-1)) fun r49 a50 a51 u52 a53 u54 u55 =>
    zb16 (zlp (fun z => f_X7_reckons_L67 mo_fields mo_colour mo_layer mo_isColumn mo_corners mo_cornerX mo_cornerY mo_density mo_longest mo_shift mo_pull mo_hasUnderlay mo_bound mo_isKnown x2 z.1 z.2.1 z.2.2.1 z.2.2.2.1 z.2.2.2.2.1 z.2.2.2.2.2.1 z.2.2.2.2.2.2.1 z.2.2.2.2.2.2.2.1 z.2.2.2.2.2.2.2.2.1 z.2.2.2.2.2.2.2.2.2.1 z.2.2.2.2.2.2.2.2.2.2.1 z.2.2.2.2.2.2.2.2.2.2.2.1 z.2.2.2.2.2.2.2.2.2.2.2.2.1 z.2.2.2.2.2.2.2.2.2.2.2.2.2.1 z.2.2.2.2.2.2.2.2.2.2.2.2.2.2.1 z.2.2.2.2.2.2.2.2.2.2.2.2.2.2.2) zFU (x1, r49, a50, a51, u52, a53, u54, mo_commands, mo_kind, mo_byX, mo_byY, mo_fieldOf, mo_needleX, mo_needleY, mo_isSewn, u55)) fun w60 w61 w62 w63 w64 w65 w66 w67 w68 w69 w70 w71 w72 w73 w74 w75 =>
    some (.inl (w60, (x2 + 1), w62, w63, w64, w65, w66, w67, w68, w69, w70, w71, w72, w73, w74, w75))
def f_X7_reckons_L30 (mo_fields : Int) (mo_colour : Int → Int) (mo_layer : Int → Int) (mo_isColumn : Int → Int) (mo_corners : Int → Int) (mo_cornerX : Int → Int) (mo_cornerY : Int → Int) (mo_density : Int → Int) (mo_longest : Int → Int) (mo_shift : Int → Int) (mo_pull : Int → Int) (mo_hasUnderlay : Int → Int) (mo_bound : Int) (mo_pointX : Int → Int) (mo_pointY : Int → Int) (mo_points : Int) (mo_crossing : Int → Int) (mo_crossings : Int) (mo_isKnown : Int) (mo_commands : Int) (mo_kind : Int → Int) (mo_byX : Int → Int) (mo_byY : Int → Int) (mo_fieldOf : Int → Int) (mo_needleX : Int) (mo_needleY : Int) (mo_rowY : Int) (x1 : Int) (mo_isSewn : Int → Int) : Option ((Int × (Int → Int)) ⊕ (Int × (Int → Int))) :=
  zck (zR x1 ∧ zR mo_fields) <|
  if mo_fields ≤ x1 then
    some (.inr (x1, mo_isSewn))
  else
    zck (0 ≤ x1 ∧ x1 < 8) <|
    zlt (zup mo_isSewn x1 0) fun a81 =>
    some (.inl ((x1 + 1), a81))
def f_X7_reckons (mo_fields : Int) (mo_colour : Int → Int) (mo_layer : Int → Int) (mo_isColumn : Int → Int) (mo_corners : Int → Int) (mo_cornerX : Int → Int) (mo_cornerY : Int → Int) (mo_density : Int → Int) (mo_longest : Int → Int) (mo_shift : Int → Int) (mo_pull : Int → Int) (mo_hasUnderlay : Int → Int) (mo_bound : Int) (mo_pointX : Int → Int) (mo_pointY : Int → Int) (mo_points : Int) (mo_crossing : Int → Int) (mo_crossings : Int) (mo_isKnown : Int) (mo_commands : Int) (mo_kind : Int → Int) (mo_byX : Int → Int) (mo_byY : Int → Int) (mo_fieldOf : Int → Int) (mo_needleX : Int) (mo_needleY : Int) (mo_isSewn : Int → Int) (mo_rowY : Int) : Option ((Int → Int) × (Int → Int) × Int × (Int → Int) × Int × Int × Int × (Int → Int) × (Int → Int) × (Int → Int) × (Int → Int) × Int × Int × (Int → Int) × Int) :=
  zck (zR mo_isKnown) <|
  if mo_isKnown = 0 then
    zb2 (zlp (fun z => f_X7_reckons_L30 mo_fields mo_colour mo_layer mo_isColumn mo_corners mo_cornerX mo_cornerY mo_density mo_longest mo_shift mo_pull mo_hasUnderlay mo_bound mo_pointX mo_pointY mo_points mo_crossing mo_crossings 1 0 mo_kind mo_byX mo_byY mo_fieldOf 0 0 mo_rowY z.1 z.2) zFU (0, mo_isSewn)) fun w89 w90 =>
    zb16 (zlp (fun z => f_X7_reckons_L55 mo_fields mo_colour mo_layer mo_isColumn mo_corners mo_cornerX mo_cornerY mo_density mo_longest mo_shift mo_pull mo_hasUnderlay mo_bound 1 z.1 z.2.1 z.2.2.1 z.2.2.2.1 z.2.2.2.2.1 z.2.2.2.2.2.1 z.2.2.2.2.2.2.1 z.2.2.2.2.2.2.2.1 z.2.2.2.2.2.2.2.2.1 z.2.2.2.2.2.2.2.2.2.1 z.2.2.2.2.2.2.2.2.2.2.1 z.2.2.2.2.2.2.2.2.2.2.2.1 z.2.2.2.2.2.2.2.2.2.2.2.2.1 z.2.2.2.2.2.2.2.2.2.2.2.2.2.1 z.2.2.2.2.2.2.2.2.2.2.2.2.2.2.1 z.2.2.2.2.2.2.2.2.2.2.2.2.2.2.2) zFU ((-1), 0, mo_pointX, mo_pointY, mo_points, mo_crossing, mo_crossings, 0, mo_kind, mo_byX, mo_byY, mo_fieldOf, 0, 0, w90, mo_rowY)) fun w93 w94 w95 w96 w97 w98 w99 w100 w101 w102 w103 w104 w105 w106 w107 w108 =>
    zb7 (f_X7_command w100 w101 w102 w103 w104 w105 w106 4 0 0 (-1)) fun u110 a111 a112 a113 a114 u115 u116 =>
    some (w95, w96, w97, w98, w99, 1, u110, a111, a112, a113, a114, u115, u116, w107, w108)
  else
    some (mo_pointX, mo_pointY, mo_points, mo_crossing, mo_crossings, mo_isKnown, mo_commands, mo_kind, mo_byX, mo_byY, mo_fieldOf, mo_needleX, mo_needleY, mo_isSewn, mo_rowY)
def f_X7_commands (mo_fields : Int) (mo_colour : Int → Int) (mo_layer : Int → Int) (mo_isColumn : Int → Int) (mo_corners : Int → Int) (mo_cornerX : Int → Int) (mo_cornerY : Int → Int) (mo_density : Int → Int) (mo_longest : Int → Int) (mo_shift : Int → Int) (mo_pull : Int → Int) (mo_hasUnderlay : Int → Int) (mo_bound : Int) (mo_pointX : Int → Int) (mo_pointY : Int → Int) (mo_points : Int) (mo_crossing : Int → Int) (mo_crossings : Int) (mo_isKnown : Int) (mo_commands : Int) (mo_kind : Int → Int) (mo_byX : Int → Int) (mo_byY : Int → Int) (mo_fieldOf : Int → Int) (mo_needleX : Int) (mo_needleY : Int) (mo_isSewn : Int → Int) (mo_thrown : Int) (mo_rowY : Int) : Option (Int × (Int → Int) × (Int → Int) × Int × (Int → Int) × Int × Int × Int × (Int → Int) × (Int → Int) × (Int → Int) × (Int → Int) × Int × Int × (Int → Int) × Int × Int) :=
  zb15 (f_X7_reckons mo_fields mo_colour mo_layer mo_isColumn mo_corners mo_cornerX mo_cornerY mo_density mo_longest mo_shift mo_pull mo_hasUnderlay mo_bound mo_pointX mo_pointY mo_points mo_crossing mo_crossings mo_isKnown mo_commands mo_kind mo_byX mo_byY mo_fieldOf mo_needleX mo_needleY mo_isSewn mo_rowY) fun a2 a3 u4 a5 u6 u7 u8 a9 a10 a11 a12 u13 u14 a15 u16 =>
  some (u8, a2, a3, u4, a5, u6, u7, u8, a9, a10, a11, a12, u13, u14, a15, 0, u16)
def f_X7_ofCommand (mo_fields : Int) (mo_colour : Int → Int) (mo_layer : Int → Int) (mo_isColumn : Int → Int) (mo_corners : Int → Int) (mo_cornerX : Int → Int) (mo_cornerY : Int → Int) (mo_density : Int → Int) (mo_longest : Int → Int) (mo_shift : Int → Int) (mo_pull : Int → Int) (mo_hasUnderlay : Int → Int) (mo_bound : Int) (mo_pointX : Int → Int) (mo_pointY : Int → Int) (mo_points : Int) (mo_crossing : Int → Int) (mo_crossings : Int) (mo_isKnown : Int) (mo_commands : Int) (mo_kind : Int → Int) (mo_byX : Int → Int) (mo_byY : Int → Int) (mo_fieldOf : Int → Int) (mo_needleX : Int) (mo_needleY : Int) (mo_isSewn : Int → Int) (mo_thrown : Int) (mo_rowY : Int) (p1 : Int) (p2 : Int) : Option (Int × (Int → Int) × (Int → Int) × Int × (Int → Int) × Int × Int × Int × (Int → Int) × (Int → Int) × (Int → Int) × (Int → Int) × Int × Int × (Int → Int) × Int × Int) :=
  zb15 (f_X7_reckons mo_fields mo_colour mo_layer mo_isColumn mo_corners mo_cornerX mo_cornerY mo_density mo_longest mo_shift mo_pull mo_hasUnderlay mo_bound mo_pointX mo_pointY mo_points mo_crossing mo_crossings mo_isKnown mo_commands mo_kind mo_byX mo_byY mo_fieldOf mo_needleX mo_needleY mo_isSewn mo_rowY) fun a1 a2 u3 a4 u5 u6 u7 a8 a9 a10 a11 u12 u13 a14 u15 =>
  zb1 (f_X7_in p1 0 (u7 - 1)) fun r18 =>
  zb2 (f_X7_asks mo_thrown r18) fun r22 u23 =>
  zck (zR r22) <|
  if r22 = 0 then
    some (0, a1, a2, u3, a4, u5, u6, u7, a8, a9, a10, a11, u12, u13, a14, u23, u15)
  else
    zck (zR p2) <|
    if p2 = 0 then
      zck (0 ≤ p1 ∧ p1 < 20000) <|
      some ((a8 p1), a1, a2, u3, a4, u5, u6, u7, a8, a9, a10, a11, u12, u13, a14, u23, u15)
    else
      if p2 = 1 then
        zck (0 ≤ p1 ∧ p1 < 20000) <|
        some ((a9 p1), a1, a2, u3, a4, u5, u6, u7, a8, a9, a10, a11, u12, u13, a14, u23, u15)
      else
        if p2 = 2 then
          zck (0 ≤ p1 ∧ p1 < 20000) <|
          some ((a10 p1), a1, a2, u3, a4, u5, u6, u7, a8, a9, a10, a11, u12, u13, a14, u23, u15)
        else
          if p2 = 3 then
            zck (0 ≤ p1 ∧ p1 < 20000) <|
            some ((a11 p1), a1, a2, u3, a4, u5, u6, u7, a8, a9, a10, a11, u12, u13, a14, u23, u15)
          else
            zb2 (f_X7_fails u23 2) fun r35 u36 =>
            some (r35, a1, a2, u3, a4, u5, u6, u7, a8, a9, a10, a11, u12, u13, a14, u36, u15)
def f_X7_count_L23 (mo_fields : Int) (mo_colour : Int → Int) (mo_layer : Int → Int) (mo_isColumn : Int → Int) (mo_corners : Int → Int) (mo_cornerX : Int → Int) (mo_cornerY : Int → Int) (mo_density : Int → Int) (mo_longest : Int → Int) (mo_shift : Int → Int) (mo_pull : Int → Int) (mo_hasUnderlay : Int → Int) (mo_bound : Int) (mo_pointX : Int → Int) (mo_pointY : Int → Int) (mo_points : Int) (mo_crossing : Int → Int) (mo_crossings : Int) (mo_isKnown : Int) (mo_commands : Int) (mo_kind : Int → Int) (mo_byX : Int → Int) (mo_byY : Int → Int) (mo_fieldOf : Int → Int) (mo_needleX : Int) (mo_needleY : Int) (mo_isSewn : Int → Int) (mo_thrown : Int) (mo_rowY : Int) (x1 : Int) (x2 : Int) (x3 : Int) : Option ((Int × Int) ⊕ (Int × Int)) :=
  zck (zR x3 ∧ zR mo_commands) <|
  if mo_commands ≤ x3 then
    some (.inr (x2, x3))
  else
    zck (0 ≤ x3 ∧ x3 < 20000) <|
    zck (zR (mo_kind x3) ∧ zR x1) <|
    if (mo_kind x3) = x1 then
      zlt ((x2 + 1)) fun v7 =>
      some (.inl (v7, (x3 + 1)))
    else
      zlt ((x2 + 0)) fun v6 =>
      some (.inl (v6, (x3 + 1)))
def f_X7_count (mo_fields : Int) (mo_colour : Int → Int) (mo_layer : Int → Int) (mo_isColumn : Int → Int) (mo_corners : Int → Int) (mo_cornerX : Int → Int) (mo_cornerY : Int → Int) (mo_density : Int → Int) (mo_longest : Int → Int) (mo_shift : Int → Int) (mo_pull : Int → Int) (mo_hasUnderlay : Int → Int) (mo_bound : Int) (mo_pointX : Int → Int) (mo_pointY : Int → Int) (mo_points : Int) (mo_crossing : Int → Int) (mo_crossings : Int) (mo_isKnown : Int) (mo_commands : Int) (mo_kind : Int → Int) (mo_byX : Int → Int) (mo_byY : Int → Int) (mo_fieldOf : Int → Int) (mo_needleX : Int) (mo_needleY : Int) (mo_isSewn : Int → Int) (mo_thrown : Int) (mo_rowY : Int) (p1 : Int) : Option (Int × (Int → Int) × (Int → Int) × Int × (Int → Int) × Int × Int × Int × (Int → Int) × (Int → Int) × (Int → Int) × (Int → Int) × Int × Int × (Int → Int) × Int × Int) :=
  zb1 (f_X7_in p1 0 4) fun r8 =>
  zb2 (f_X7_asks mo_thrown r8) fun r12 u13 =>
  zck (zR r12) <|
  if r12 = 0 then
    some (0, mo_pointX, mo_pointY, mo_points, mo_crossing, mo_crossings, mo_isKnown, mo_commands, mo_kind, mo_byX, mo_byY, mo_fieldOf, mo_needleX, mo_needleY, mo_isSewn, u13, mo_rowY)
  else
    zb15 (f_X7_reckons mo_fields mo_colour mo_layer mo_isColumn mo_corners mo_cornerX mo_cornerY mo_density mo_longest mo_shift mo_pull mo_hasUnderlay mo_bound mo_pointX mo_pointY mo_points mo_crossing mo_crossings mo_isKnown mo_commands mo_kind mo_byX mo_byY mo_fieldOf mo_needleX mo_needleY mo_isSewn mo_rowY) fun a19 a20 u21 a22 u23 u24 u25 a26 a27 a28 a29 u30 u31 a32 u33 =>
    zb2 (zlp (fun z => f_X7_count_L23 mo_fields mo_colour mo_layer mo_isColumn mo_corners mo_cornerX mo_cornerY mo_density mo_longest mo_shift mo_pull mo_hasUnderlay mo_bound a19 a20 u21 a22 u23 u24 u25 a26 a27 a28 a29 u30 u31 a32 u13 u33 p1 z.1 z.2) zFU (0, 0)) fun w37 w38 =>
    some (w37, a19, a20, u21, a22, u23, u24, u25, a26, a27, a28, a29, u30, u31, a32, u13, u33)
def f_X7_secondsOf (mo_kind : Int → Int) (mo_byX : Int → Int) (mo_byY : Int → Int) (p1 : Int) : Option (UInt32) :=
  zck (0 ≤ p1 ∧ p1 < 20000) <|
  zck (zR (mo_kind p1)) <|
  if (mo_kind p1) = 0 then
    zck (0 ≤ p1 ∧ p1 < 20000) <|
    zb1 (f_X7_size (mo_byX p1)) fun r5 =>
    zck (zR r5) <|
    if 4 < r5 then
      some 1036831949
    else
      zck (0 ≤ p1 ∧ p1 < 20000) <|
      zb1 (f_X7_size (mo_byY p1)) fun r12 =>
      zck (zR r12) <|
      if 4 < r12 then
        some 1036831949
      else
        some 1033476506
  else
    if (mo_kind p1) = 1 then
      some 1045220557
    else
      if (mo_kind p1) = 2 then
        some 1086324736
      else
        if (mo_kind p1) = 3 then
          some 1090519040
        else
          some 0
def f_X7_time_L13 (mo_fields : Int) (mo_colour : Int → Int) (mo_layer : Int → Int) (mo_isColumn : Int → Int) (mo_corners : Int → Int) (mo_cornerX : Int → Int) (mo_cornerY : Int → Int) (mo_density : Int → Int) (mo_longest : Int → Int) (mo_shift : Int → Int) (mo_pull : Int → Int) (mo_hasUnderlay : Int → Int) (mo_bound : Int) (mo_pointX : Int → Int) (mo_pointY : Int → Int) (mo_points : Int) (mo_crossing : Int → Int) (mo_crossings : Int) (mo_isKnown : Int) (mo_commands : Int) (mo_kind : Int → Int) (mo_byX : Int → Int) (mo_byY : Int → Int) (mo_fieldOf : Int → Int) (mo_needleX : Int) (mo_needleY : Int) (mo_isSewn : Int → Int) (mo_thrown : Int) (mo_rowY : Int) (x1 : UInt32) (x2 : Int) : Option ((UInt32 × Int) ⊕ (UInt32 × Int)) :=
  zck (zR x2 ∧ zR mo_commands) <|
  if mo_commands ≤ x2 then
    some (.inr (x1, x2))
  else
    zb1 (f_X7_secondsOf mo_kind mo_byX mo_byY x2) fun r3 =>
    zck (zn32 (FP.fadd x1 r3)) <|
    zlt ((FP.fadd x1 r3)) fun v8 =>
    some (.inl (v8, (x2 + 1)))
def f_X7_time (mo_fields : Int) (mo_colour : Int → Int) (mo_layer : Int → Int) (mo_isColumn : Int → Int) (mo_corners : Int → Int) (mo_cornerX : Int → Int) (mo_cornerY : Int → Int) (mo_density : Int → Int) (mo_longest : Int → Int) (mo_shift : Int → Int) (mo_pull : Int → Int) (mo_hasUnderlay : Int → Int) (mo_bound : Int) (mo_pointX : Int → Int) (mo_pointY : Int → Int) (mo_points : Int) (mo_crossing : Int → Int) (mo_crossings : Int) (mo_isKnown : Int) (mo_commands : Int) (mo_kind : Int → Int) (mo_byX : Int → Int) (mo_byY : Int → Int) (mo_fieldOf : Int → Int) (mo_needleX : Int) (mo_needleY : Int) (mo_isSewn : Int → Int) (mo_thrown : Int) (mo_rowY : Int) : Option (UInt32 × (Int → Int) × (Int → Int) × Int × (Int → Int) × Int × Int × Int × (Int → Int) × (Int → Int) × (Int → Int) × (Int → Int) × Int × Int × (Int → Int) × Int × Int) :=
  zb15 (f_X7_reckons mo_fields mo_colour mo_layer mo_isColumn mo_corners mo_cornerX mo_cornerY mo_density mo_longest mo_shift mo_pull mo_hasUnderlay mo_bound mo_pointX mo_pointY mo_points mo_crossing mo_crossings mo_isKnown mo_commands mo_kind mo_byX mo_byY mo_fieldOf mo_needleX mo_needleY mo_isSewn mo_rowY) fun a10 a11 u12 a13 u14 u15 u16 a17 a18 a19 a20 u21 u22 a23 u24 =>
  zb2 (zlp (fun z => f_X7_time_L13 mo_fields mo_colour mo_layer mo_isColumn mo_corners mo_cornerX mo_cornerY mo_density mo_longest mo_shift mo_pull mo_hasUnderlay mo_bound a10 a11 u12 a13 u14 u15 u16 a17 a18 a19 a20 u21 u22 a23 0 u24 z.1 z.2) zFU (0, 0)) fun w28 w29 =>
  some (w28, a10, a11, u12, a13, u14, u15, u16, a17, a18, a19, a20, u21, u22, a23, 0, u24)
def f_X7_root_L2 (x0 : Int) (x1 : Int) : Option ((Int) ⊕ (Int)) :=
  zck (zR ((x1 + 1) * (x1 + 1)) ∧ zR x0) <|
  if x0 < ((x1 + 1) * (x1 + 1)) then
    some (.inr x1)
  else
    some (.inl (x1 + 1))
def f_X7_root (p0 : Int) : Option (Int) :=
  zb1 (zlp (fun z => f_X7_root_L2 p0 z) zFU 0) fun w4 =>
  some w4
def f_X7_thread_L23_60 (mo_fields : Int) (mo_colour : Int → Int) (mo_layer : Int → Int) (mo_isColumn : Int → Int) (mo_corners : Int → Int) (mo_cornerX : Int → Int) (mo_cornerY : Int → Int) (mo_density : Int → Int) (mo_longest : Int → Int) (mo_shift : Int → Int) (mo_pull : Int → Int) (mo_hasUnderlay : Int → Int) (mo_bound : Int) (mo_pointX : Int → Int) (mo_pointY : Int → Int) (mo_points : Int) (mo_crossing : Int → Int) (mo_crossings : Int) (mo_isKnown : Int) (mo_commands : Int) (mo_kind : Int → Int) (mo_byX : Int → Int) (mo_byY : Int → Int) (mo_fieldOf : Int → Int) (mo_needleX : Int) (mo_needleY : Int) (mo_isSewn : Int → Int) (mo_thrown : Int) (mo_rowY : Int) (x1 : Int) (x2 : Int) (x3 : Int) (s0 : Int) : Option ((Int × Int) ⊕ (Int × Int)) :=
  zck (zR s0) <|
  if s0 = 0 then
    zlt ((x2 + 0)) fun v3 =>
    some (.inl (v3, (x3 + 1)))
  else
    zck (0 ≤ x3 ∧ x3 < 20000) <|
    zck (0 ≤ x3 ∧ x3 < 20000) <|
    zck (0 ≤ x3 ∧ x3 < 20000) <|
    zck (0 ≤ x3 ∧ x3 < 20000) <|
    zb1 (f_X7_root (100 * (((mo_byX x3) * (mo_byX x3)) + ((mo_byY x3) * (mo_byY x3))))) fun r8 =>
    zlt ((x2 + r8)) fun v12 =>
    some (.inl (v12, (x3 + 1)))
def f_X7_thread_L23_59 (mo_fields : Int) (mo_colour : Int → Int) (mo_layer : Int → Int) (mo_isColumn : Int → Int) (mo_corners : Int → Int) (mo_cornerX : Int → Int) (mo_cornerY : Int → Int) (mo_density : Int → Int) (mo_longest : Int → Int) (mo_shift : Int → Int) (mo_pull : Int → Int) (mo_hasUnderlay : Int → Int) (mo_bound : Int) (mo_pointX : Int → Int) (mo_pointY : Int → Int) (mo_points : Int) (mo_crossing : Int → Int) (mo_crossings : Int) (mo_isKnown : Int) (mo_commands : Int) (mo_kind : Int → Int) (mo_byX : Int → Int) (mo_byY : Int → Int) (mo_fieldOf : Int → Int) (mo_needleX : Int) (mo_needleY : Int) (mo_isSewn : Int → Int) (mo_thrown : Int) (mo_rowY : Int) (x1 : Int) (x2 : Int) (x3 : Int) : Option ((Int × Int) ⊕ (Int × Int)) :=
  f_X7_thread_L23_60 mo_fields mo_colour mo_layer mo_isColumn mo_corners mo_cornerX mo_cornerY mo_density mo_longest mo_shift mo_pull mo_hasUnderlay mo_bound mo_pointX mo_pointY mo_points mo_crossing mo_crossings mo_isKnown mo_commands mo_kind mo_byX mo_byY mo_fieldOf mo_needleX mo_needleY mo_isSewn mo_thrown mo_rowY x1 x2 x3 0
def f_X7_thread_L23 (mo_fields : Int) (mo_colour : Int → Int) (mo_layer : Int → Int) (mo_isColumn : Int → Int) (mo_corners : Int → Int) (mo_cornerX : Int → Int) (mo_cornerY : Int → Int) (mo_density : Int → Int) (mo_longest : Int → Int) (mo_shift : Int → Int) (mo_pull : Int → Int) (mo_hasUnderlay : Int → Int) (mo_bound : Int) (mo_pointX : Int → Int) (mo_pointY : Int → Int) (mo_points : Int) (mo_crossing : Int → Int) (mo_crossings : Int) (mo_isKnown : Int) (mo_commands : Int) (mo_kind : Int → Int) (mo_byX : Int → Int) (mo_byY : Int → Int) (mo_fieldOf : Int → Int) (mo_needleX : Int) (mo_needleY : Int) (mo_isSewn : Int → Int) (mo_thrown : Int) (mo_rowY : Int) (x1 : Int) (x2 : Int) (x3 : Int) : Option ((Int × Int) ⊕ (Int × Int)) :=
  zck (zR x3 ∧ zR mo_commands) <|
  if mo_commands ≤ x3 then
    some (.inr (x2, x3))
  else
    zck (0 ≤ x3 ∧ x3 < 20000) <|
    zck (zR (mo_kind x3)) <|
    if (mo_kind x3) = 0 then
      zck (0 ≤ x3 ∧ x3 < 20000) <|
      zck (0 ≤ (mo_fieldOf x3) ∧ (mo_fieldOf x3) < 8) <|
      zck (zR (mo_colour (mo_fieldOf x3)) ∧ zR x1) <|
      if (mo_colour (mo_fieldOf x3)) = x1 then
        f_X7_thread_L23_60 mo_fields mo_colour mo_layer mo_isColumn mo_corners mo_cornerX mo_cornerY mo_density mo_longest mo_shift mo_pull mo_hasUnderlay mo_bound mo_pointX mo_pointY mo_points mo_crossing mo_crossings mo_isKnown mo_commands mo_kind mo_byX mo_byY mo_fieldOf mo_needleX mo_needleY mo_isSewn mo_thrown mo_rowY x1 x2 x3 1
      else
        f_X7_thread_L23_59 mo_fields mo_colour mo_layer mo_isColumn mo_corners mo_cornerX mo_cornerY mo_density mo_longest mo_shift mo_pull mo_hasUnderlay mo_bound mo_pointX mo_pointY mo_points mo_crossing mo_crossings mo_isKnown mo_commands mo_kind mo_byX mo_byY mo_fieldOf mo_needleX mo_needleY mo_isSewn mo_thrown mo_rowY x1 x2 x3
    else
      f_X7_thread_L23_59 mo_fields mo_colour mo_layer mo_isColumn mo_corners mo_cornerX mo_cornerY mo_density mo_longest mo_shift mo_pull mo_hasUnderlay mo_bound mo_pointX mo_pointY mo_points mo_crossing mo_crossings mo_isKnown mo_commands mo_kind mo_byX mo_byY mo_fieldOf mo_needleX mo_needleY mo_isSewn mo_thrown mo_rowY x1 x2 x3
def f_X7_thread (mo_fields : Int) (mo_colour : Int → Int) (mo_layer : Int → Int) (mo_isColumn : Int → Int) (mo_corners : Int → Int) (mo_cornerX : Int → Int) (mo_cornerY : Int → Int) (mo_density : Int → Int) (mo_longest : Int → Int) (mo_shift : Int → Int) (mo_pull : Int → Int) (mo_hasUnderlay : Int → Int) (mo_bound : Int) (mo_pointX : Int → Int) (mo_pointY : Int → Int) (mo_points : Int) (mo_crossing : Int → Int) (mo_crossings : Int) (mo_isKnown : Int) (mo_commands : Int) (mo_kind : Int → Int) (mo_byX : Int → Int) (mo_byY : Int → Int) (mo_fieldOf : Int → Int) (mo_needleX : Int) (mo_needleY : Int) (mo_isSewn : Int → Int) (mo_thrown : Int) (mo_rowY : Int) (p1 : Int) : Option (Int × (Int → Int) × (Int → Int) × Int × (Int → Int) × Int × Int × Int × (Int → Int) × (Int → Int) × (Int → Int) × (Int → Int) × Int × Int × (Int → Int) × Int × Int) :=
  zb1 (f_X7_in p1 0 5) fun r22 =>
  zb2 (f_X7_asks mo_thrown r22) fun r26 u27 =>
  zck (zR r26) <|
  if r26 = 0 then
    some (0, mo_pointX, mo_pointY, mo_points, mo_crossing, mo_crossings, mo_isKnown, mo_commands, mo_kind, mo_byX, mo_byY, mo_fieldOf, mo_needleX, mo_needleY, mo_isSewn, u27, mo_rowY)
  else
    zb15 (f_X7_reckons mo_fields mo_colour mo_layer mo_isColumn mo_corners mo_cornerX mo_cornerY mo_density mo_longest mo_shift mo_pull mo_hasUnderlay mo_bound mo_pointX mo_pointY mo_points mo_crossing mo_crossings mo_isKnown mo_commands mo_kind mo_byX mo_byY mo_fieldOf mo_needleX mo_needleY mo_isSewn mo_rowY) fun a33 a34 u35 a36 u37 u38 u39 a40 a41 a42 a43 u44 u45 a46 u47 =>
    zb2 (zlp (fun z => f_X7_thread_L23 mo_fields mo_colour mo_layer mo_isColumn mo_corners mo_cornerX mo_cornerY mo_density mo_longest mo_shift mo_pull mo_hasUnderlay mo_bound a33 a34 u35 a36 u37 u38 u39 a40 a41 a42 a43 u44 u45 a46 u27 u47 p1 z.1 z.2) zFU (0, 0)) fun w51 w52 =>
    some (w51, a33, a34, u35, a36, u37, u38, u39, a40, a41, a42, a43, u44, u45, a46, u27, u47)
def f_X7_marks (mo_isTouched : Int → Int) (p1 : Int) (p2 : Int) : Option ((Int → Int)) :=
  zb1 (f_X7_in p1 0 31) fun r1 =>
  zck (zR r1) <|
  if r1 = 0 then
    some mo_isTouched
  else
    zb1 (f_X7_in p2 0 31) fun r7 =>
    zck (zR r7) <|
    if r7 = 0 then
      some mo_isTouched
    else
      zck (0 ≤ ((32 * p2) + p1) ∧ ((32 * p2) + p1) < 1024) <|
      zlt (zup mo_isTouched ((32 * p2) + p1) 1) fun a15 =>
      some a15
def f_X7_touches_L174 (mo_fields : Int) (mo_colour : Int → Int) (mo_layer : Int → Int) (mo_isColumn : Int → Int) (mo_corners : Int → Int) (mo_cornerX : Int → Int) (mo_cornerY : Int → Int) (mo_density : Int → Int) (mo_longest : Int → Int) (mo_shift : Int → Int) (mo_pull : Int → Int) (mo_hasUnderlay : Int → Int) (mo_bound : Int) (mo_pointX : Int → Int) (mo_pointY : Int → Int) (mo_points : Int) (mo_crossing : Int → Int) (mo_crossings : Int) (mo_isKnown : Int) (mo_commands : Int) (mo_kind : Int → Int) (mo_byX : Int → Int) (mo_byY : Int → Int) (mo_fieldOf : Int → Int) (mo_needleX : Int) (mo_needleY : Int) (mo_isSewn : Int → Int) (mo_isTouched : Int → Int) (mo_rowY : Int) (x4 : Int) (x5 : Int) : Option ((Int × Int) ⊕ (Int × Int)) :=
  zck (zR x5) <|
  if 1024 ≤ x5 then
    some (.inr (x4, x5))
  else
    zck (0 ≤ x5 ∧ x5 < 1024) <|
    zck (zR (mo_isTouched x5)) <|
    if (mo_isTouched x5) = 0 then
      zlt ((x4 + 0)) fun v6 =>
      some (.inl (v6, (x5 + 1)))
    else
      zlt ((x4 + 1)) fun v7 =>
      some (.inl (v7, (x5 + 1)))
def f_X7_touches_L33_142 (mo_fields : Int) (mo_colour : Int → Int) (mo_layer : Int → Int) (mo_isColumn : Int → Int) (mo_corners : Int → Int) (mo_cornerX : Int → Int) (mo_cornerY : Int → Int) (mo_density : Int → Int) (mo_longest : Int → Int) (mo_shift : Int → Int) (mo_pull : Int → Int) (mo_hasUnderlay : Int → Int) (mo_bound : Int) (mo_pointX : Int → Int) (mo_pointY : Int → Int) (mo_points : Int) (mo_crossing : Int → Int) (mo_crossings : Int) (mo_isKnown : Int) (mo_commands : Int) (mo_kind : Int → Int) (mo_byX : Int → Int) (mo_byY : Int → Int) (mo_fieldOf : Int → Int) (mo_needleX : Int) (mo_needleY : Int) (mo_isSewn : Int → Int) (mo_isTouched : Int → Int) (mo_rowY : Int) (x1 : Int) (x2 : Int) (x3 : Int) (x4 : Int) : Option ((Int × Int × Int × (Int → Int)) ⊕ (Int × Int × Int × (Int → Int))) :=
  zck (0 ≤ x4 ∧ x4 < 20000) <|
  zlt ((x2 + (mo_byX x4))) fun v9 =>
  zck (0 ≤ x4 ∧ x4 < 20000) <|
  zlt ((x3 + (mo_byY x4))) fun v11 =>
  some (.inl (v9, v11, (x4 + 1), mo_isTouched))
def f_X7_touches_L91 (mo_fields : Int) (mo_colour : Int → Int) (mo_layer : Int → Int) (mo_isColumn : Int → Int) (mo_corners : Int → Int) (mo_cornerX : Int → Int) (mo_cornerY : Int → Int) (mo_density : Int → Int) (mo_longest : Int → Int) (mo_shift : Int → Int) (mo_pull : Int → Int) (mo_hasUnderlay : Int → Int) (mo_bound : Int) (mo_pointX : Int → Int) (mo_pointY : Int → Int) (mo_points : Int) (mo_crossing : Int → Int) (mo_crossings : Int) (mo_isKnown : Int) (mo_commands : Int) (mo_kind : Int → Int) (mo_byX : Int → Int) (mo_byY : Int → Int) (mo_fieldOf : Int → Int) (mo_needleX : Int) (mo_needleY : Int) (mo_isSewn : Int → Int) (mo_rowY : Int) (x1 : Int) (x2 : Int) (x3 : Int) (x4 : Int) (x5 : Int) (x6 : Int) (mo_isTouched : Int → Int) : Option ((Int × (Int → Int)) ⊕ (Int × (Int → Int))) :=
  zck (zR x6 ∧ zR x5) <|
  if x5 < x6 then
    some (.inr (x6, mo_isTouched))
  else
    zck (0 ≤ x4 ∧ x4 < 20000) <|
    zb1 (f_X7_down ((mo_byX x4) * x6) x5) fun r15 =>
    zck (0 ≤ x4 ∧ x4 < 20000) <|
    zb1 (f_X7_down ((mo_byY x4) * x6) x5) fun r20 =>
    zb1 (f_X7_marks mo_isTouched (x2 + r15) (x3 + r20)) fun a24 =>
    some (.inl ((x6 + 1), a24))
def f_X7_touches_L33 (mo_fields : Int) (mo_colour : Int → Int) (mo_layer : Int → Int) (mo_isColumn : Int → Int) (mo_corners : Int → Int) (mo_cornerX : Int → Int) (mo_cornerY : Int → Int) (mo_density : Int → Int) (mo_longest : Int → Int) (mo_shift : Int → Int) (mo_pull : Int → Int) (mo_hasUnderlay : Int → Int) (mo_bound : Int) (mo_pointX : Int → Int) (mo_pointY : Int → Int) (mo_points : Int) (mo_crossing : Int → Int) (mo_crossings : Int) (mo_isKnown : Int) (mo_commands : Int) (mo_kind : Int → Int) (mo_byX : Int → Int) (mo_byY : Int → Int) (mo_fieldOf : Int → Int) (mo_needleX : Int) (mo_needleY : Int) (mo_isSewn : Int → Int) (mo_rowY : Int) (x1 : Int) (x2 : Int) (x3 : Int) (x4 : Int) (mo_isTouched : Int → Int) : Option ((Int × Int × Int × (Int → Int)) ⊕ (Int × Int × Int × (Int → Int))) :=
  zck (zR x4 ∧ zR mo_commands) <|
  if mo_commands ≤ x4 then
    some (.inr (x2, x3, x4, mo_isTouched))
  else
    zck (0 ≤ x4 ∧ x4 < 20000) <|
    zck (zR (mo_kind x4)) <|
    if (mo_kind x4) = 0 then
      zck (0 ≤ x4 ∧ x4 < 20000) <|
      zck (zR (mo_fieldOf x4) ∧ zR x1) <|
      if (mo_fieldOf x4) = x1 then
        zck (0 ≤ x4 ∧ x4 < 20000) <|
        zb1 (f_X7_size (mo_byX x4)) fun r36 =>
        zck (0 ≤ x4 ∧ x4 < 20000) <|
        zb1 (f_X7_size (mo_byY x4)) fun r41 =>
        zb1 (f_X7_greater r36 r41) fun r45 =>
        zb2 (zlp (fun z => f_X7_touches_L91 mo_fields mo_colour mo_layer mo_isColumn mo_corners mo_cornerX mo_cornerY mo_density mo_longest mo_shift mo_pull mo_hasUnderlay mo_bound mo_pointX mo_pointY mo_points mo_crossing mo_crossings mo_isKnown mo_commands mo_kind mo_byX mo_byY mo_fieldOf mo_needleX mo_needleY mo_isSewn mo_rowY x1 x2 x3 x4 r45 z.1 z.2) zFU (0, mo_isTouched)) fun w50 w51 =>
        f_X7_touches_L33_142 mo_fields mo_colour mo_layer mo_isColumn mo_corners mo_cornerX mo_cornerY mo_density mo_longest mo_shift mo_pull mo_hasUnderlay mo_bound mo_pointX mo_pointY mo_points mo_crossing mo_crossings mo_isKnown mo_commands mo_kind mo_byX mo_byY mo_fieldOf mo_needleX mo_needleY mo_isSewn w51 mo_rowY x1 x2 x3 x4
      else
        f_X7_touches_L33_142 mo_fields mo_colour mo_layer mo_isColumn mo_corners mo_cornerX mo_cornerY mo_density mo_longest mo_shift mo_pull mo_hasUnderlay mo_bound mo_pointX mo_pointY mo_points mo_crossing mo_crossings mo_isKnown mo_commands mo_kind mo_byX mo_byY mo_fieldOf mo_needleX mo_needleY mo_isSewn mo_isTouched mo_rowY x1 x2 x3 x4
    else
      f_X7_touches_L33_142 mo_fields mo_colour mo_layer mo_isColumn mo_corners mo_cornerX mo_cornerY mo_density mo_longest mo_shift mo_pull mo_hasUnderlay mo_bound mo_pointX mo_pointY mo_points mo_crossing mo_crossings mo_isKnown mo_commands mo_kind mo_byX mo_byY mo_fieldOf mo_needleX mo_needleY mo_isSewn mo_isTouched mo_rowY x1 x2 x3 x4
def f_X7_touches_L6 (mo_fields : Int) (mo_colour : Int → Int) (mo_layer : Int → Int) (mo_isColumn : Int → Int) (mo_corners : Int → Int) (mo_cornerX : Int → Int) (mo_cornerY : Int → Int) (mo_density : Int → Int) (mo_longest : Int → Int) (mo_shift : Int → Int) (mo_pull : Int → Int) (mo_hasUnderlay : Int → Int) (mo_bound : Int) (mo_pointX : Int → Int) (mo_pointY : Int → Int) (mo_points : Int) (mo_crossing : Int → Int) (mo_crossings : Int) (mo_isKnown : Int) (mo_commands : Int) (mo_kind : Int → Int) (mo_byX : Int → Int) (mo_byY : Int → Int) (mo_fieldOf : Int → Int) (mo_needleX : Int) (mo_needleY : Int) (mo_isSewn : Int → Int) (mo_rowY : Int) (x1 : Int) (x2 : Int) (mo_isTouched : Int → Int) : Option ((Int × (Int → Int)) ⊕ (Int × (Int → Int))) :=
  zck (zR x2) <|
  if 1024 ≤ x2 then
    some (.inr (x2, mo_isTouched))
  else
    zck (0 ≤ x2 ∧ x2 < 1024) <|
    zlt (zup mo_isTouched x2 0) fun a57 =>
    some (.inl ((x2 + 1), a57))
def f_X7_touches (mo_fields : Int) (mo_colour : Int → Int) (mo_layer : Int → Int) (mo_isColumn : Int → Int) (mo_corners : Int → Int) (mo_cornerX : Int → Int) (mo_cornerY : Int → Int) (mo_density : Int → Int) (mo_longest : Int → Int) (mo_shift : Int → Int) (mo_pull : Int → Int) (mo_hasUnderlay : Int → Int) (mo_bound : Int) (mo_pointX : Int → Int) (mo_pointY : Int → Int) (mo_points : Int) (mo_crossing : Int → Int) (mo_crossings : Int) (mo_isKnown : Int) (mo_commands : Int) (mo_kind : Int → Int) (mo_byX : Int → Int) (mo_byY : Int → Int) (mo_fieldOf : Int → Int) (mo_needleX : Int) (mo_needleY : Int) (mo_isSewn : Int → Int) (mo_isTouched : Int → Int) (mo_rowY : Int) (p1 : Int) : Option (Int × (Int → Int) × (Int → Int) × Int × (Int → Int) × Int × Int × Int × (Int → Int) × (Int → Int) × (Int → Int) × (Int → Int) × Int × Int × (Int → Int) × (Int → Int) × Int) :=
  zb15 (f_X7_reckons mo_fields mo_colour mo_layer mo_isColumn mo_corners mo_cornerX mo_cornerY mo_density mo_longest mo_shift mo_pull mo_hasUnderlay mo_bound mo_pointX mo_pointY mo_points mo_crossing mo_crossings mo_isKnown mo_commands mo_kind mo_byX mo_byY mo_fieldOf mo_needleX mo_needleY mo_isSewn mo_rowY) fun a58 a59 u60 a61 u62 u63 u64 a65 a66 a67 a68 u69 u70 a71 u72 =>
  zb2 (zlp (fun z => f_X7_touches_L6 mo_fields mo_colour mo_layer mo_isColumn mo_corners mo_cornerX mo_cornerY mo_density mo_longest mo_shift mo_pull mo_hasUnderlay mo_bound a58 a59 u60 a61 u62 u63 u64 a65 a66 a67 a68 u69 u70 a71 u72 p1 z.1 z.2) zFU (0, mo_isTouched)) fun w76 w77 =>
  zb4 (zlp (fun z => f_X7_touches_L33 mo_fields mo_colour mo_layer mo_isColumn mo_corners mo_cornerX mo_cornerY mo_density mo_longest mo_shift mo_pull mo_hasUnderlay mo_bound a58 a59 u60 a61 u62 u63 u64 a65 a66 a67 a68 u69 u70 a71 u72 p1 z.1 z.2.1 z.2.2.1 z.2.2.2) zFU (0, 0, 0, w77)) fun w80 w81 w82 w83 =>
  zb2 (zlp (fun z => f_X7_touches_L174 mo_fields mo_colour mo_layer mo_isColumn mo_corners mo_cornerX mo_cornerY mo_density mo_longest mo_shift mo_pull mo_hasUnderlay mo_bound a58 a59 u60 a61 u62 u63 u64 a65 a66 a67 a68 u69 u70 a71 w83 u72 z.1 z.2) zFU (0, 0)) fun w86 w87 =>
  some (w86, a58, a59, u60, a61, u62, u63, u64, a65, a66, a67, a68, u69, u70, a71, w83, u72)
def f_X7_isCovered_L15_59 (mo_density : Int → Int) (mo_isTouched : Int → Int) (x1 : Int) (x2 : Int) (x3 : Int) (x5 : Int) : Option ((Int × Int) ⊕ (Int × Int)) :=
  some (.inl (1, (x5 + 1)))
def f_X7_isCovered_L15 (mo_density : Int → Int) (mo_isTouched : Int → Int) (x1 : Int) (x2 : Int) (x3 : Int) (x4 : Int) (x5 : Int) : Option ((Int × Int) ⊕ (Int × Int)) :=
  zck (0 ≤ x1 ∧ x1 < 8) <|
  zck (zR x5 ∧ zR (x3 + (mo_density x1))) <|
  if (x3 + (mo_density x1)) ≤ x5 then
    some (.inr (x4, x5))
  else
    zck (zR x4) <|
    if x4 = 0 then
      zb1 (f_X7_in x5 0 31) fun r6 =>
      zck (zR r6) <|
      if r6 = 0 then
        some (.inl (0, (x5 + 1)))
      else
        zck (0 ≤ ((32 * x5) + x2) ∧ ((32 * x5) + x2) < 1024) <|
        zck (zR (mo_isTouched ((32 * x5) + x2))) <|
        if (mo_isTouched ((32 * x5) + x2)) = 0 then
          some (.inl (0, (x5 + 1)))
        else
          f_X7_isCovered_L15_59 mo_density mo_isTouched x1 x2 x3 x5
    else
      f_X7_isCovered_L15_59 mo_density mo_isTouched x1 x2 x3 x5
def f_X7_isCovered (mo_density : Int → Int) (mo_isTouched : Int → Int) (p1 : Int) (p2 : Int) (p3 : Int) : Option (Int) :=
  zck (0 ≤ p1 ∧ p1 < 8) <|
  zlt (((p3 - (mo_density p1)) + 1)) fun v16 =>
  zb2 (zlp (fun z => f_X7_isCovered_L15 mo_density mo_isTouched p1 p2 p3 z.1 z.2) zFU (0, v16)) fun w18 w19 =>
  zck (w18 = 0 ∨ w18 = 1) <|
  some w18
def f_X7_covered_L66_145 (mo_fields : Int) (mo_colour : Int → Int) (mo_layer : Int → Int) (mo_isColumn : Int → Int) (mo_corners : Int → Int) (mo_cornerX : Int → Int) (mo_cornerY : Int → Int) (mo_density : Int → Int) (mo_longest : Int → Int) (mo_shift : Int → Int) (mo_pull : Int → Int) (mo_hasUnderlay : Int → Int) (mo_bound : Int) (mo_pointX : Int → Int) (mo_pointY : Int → Int) (mo_points : Int) (mo_crossing : Int → Int) (mo_crossings : Int) (mo_isKnown : Int) (mo_commands : Int) (mo_kind : Int → Int) (mo_byX : Int → Int) (mo_byY : Int → Int) (mo_fieldOf : Int → Int) (mo_needleX : Int) (mo_needleY : Int) (mo_isSewn : Int → Int) (mo_isTouched : Int → Int) (mo_thrown : Int) (mo_rowY : Int) (x1 : Int) (x2 : Int) (x4 : Int) (x5 : Int) (x6 : Int) (x7 : Int) (s0 : Int) (s1 : Int) : Option ((Int × Int × Int) ⊕ (Int × Int × Int)) :=
  zlt ((s0 + s1)) fun v1 =>
  zck (zR x7) <|
  if x7 = 0 then
    zlt ((x4 + 0)) fun v4 =>
    some (.inl (v1, v4, (x6 + 1)))
  else
    zck (zR x2) <|
    if x2 ≤ 0 then
      zlt ((x4 + 0)) fun v7 =>
      some (.inl (v1, v7, (x6 + 1)))
    else
      zb1 (f_X7_isCovered mo_density mo_isTouched x1 x6 x5) fun r8 =>
      zck (zR r8) <|
      if r8 = 0 then
        zlt ((x4 + 0)) fun v14 =>
        some (.inl (v1, v14, (x6 + 1)))
      else
        zlt ((x4 + 1)) fun v15 =>
        some (.inl (v1, v15, (x6 + 1)))
def f_X7_covered_L79_121 (mo_fields : Int) (mo_colour : Int → Int) (mo_layer : Int → Int) (mo_isColumn : Int → Int) (mo_corners : Int → Int) (mo_cornerX : Int → Int) (mo_cornerY : Int → Int) (mo_density : Int → Int) (mo_longest : Int → Int) (mo_shift : Int → Int) (mo_pull : Int → Int) (mo_hasUnderlay : Int → Int) (mo_bound : Int) (mo_pointX : Int → Int) (mo_pointY : Int → Int) (mo_points : Int) (mo_crossing : Int → Int) (mo_crossings : Int) (mo_isKnown : Int) (mo_commands : Int) (mo_kind : Int → Int) (mo_byX : Int → Int) (mo_byY : Int → Int) (mo_fieldOf : Int → Int) (mo_needleX : Int) (mo_needleY : Int) (mo_isSewn : Int → Int) (mo_isTouched : Int → Int) (mo_thrown : Int) (mo_rowY : Int) (x1 : Int) (x2 : Int) (x3 : Int) (x4 : Int) (x5 : Int) (x6 : Int) (x8 : Int) : Option ((Int × Int) ⊕ (Int × Int)) :=
  some (.inl (1, (x8 + 2)))
def f_X7_covered_L79 (mo_fields : Int) (mo_colour : Int → Int) (mo_layer : Int → Int) (mo_isColumn : Int → Int) (mo_corners : Int → Int) (mo_cornerX : Int → Int) (mo_cornerY : Int → Int) (mo_density : Int → Int) (mo_longest : Int → Int) (mo_shift : Int → Int) (mo_pull : Int → Int) (mo_hasUnderlay : Int → Int) (mo_bound : Int) (mo_pointX : Int → Int) (mo_pointY : Int → Int) (mo_points : Int) (mo_crossing : Int → Int) (mo_crossings : Int) (mo_isKnown : Int) (mo_commands : Int) (mo_kind : Int → Int) (mo_byX : Int → Int) (mo_byY : Int → Int) (mo_fieldOf : Int → Int) (mo_needleX : Int) (mo_needleY : Int) (mo_isSewn : Int → Int) (mo_isTouched : Int → Int) (mo_thrown : Int) (mo_rowY : Int) (x1 : Int) (x2 : Int) (x3 : Int) (x4 : Int) (x5 : Int) (x6 : Int) (x7 : Int) (x8 : Int) : Option ((Int × Int) ⊕ (Int × Int)) :=
  zck (zR (x8 + 1) ∧ zR mo_crossings) <|
  if mo_crossings ≤ (x8 + 1) then
    some (.inr (x7, x8))
  else
    zck (zR x7) <|
    if x7 = 0 then
      zck (0 ≤ x8 ∧ x8 < 8) <|
      zck (zR (mo_crossing x8) ∧ zR x6) <|
      if x6 < (mo_crossing x8) then
        some (.inl (0, (x8 + 2)))
      else
        zck (0 ≤ (x8 + 1) ∧ (x8 + 1) < 8) <|
        zck (zR x6 ∧ zR (mo_crossing (x8 + 1))) <|
        if (mo_crossing (x8 + 1)) < x6 then
          some (.inl (0, (x8 + 2)))
        else
          f_X7_covered_L79_121 mo_fields mo_colour mo_layer mo_isColumn mo_corners mo_cornerX mo_cornerY mo_density mo_longest mo_shift mo_pull mo_hasUnderlay mo_bound mo_pointX mo_pointY mo_points mo_crossing mo_crossings mo_isKnown mo_commands mo_kind mo_byX mo_byY mo_fieldOf mo_needleX mo_needleY mo_isSewn mo_isTouched mo_thrown mo_rowY x1 x2 x3 x4 x5 x6 x8
    else
      f_X7_covered_L79_121 mo_fields mo_colour mo_layer mo_isColumn mo_corners mo_cornerX mo_cornerY mo_density mo_longest mo_shift mo_pull mo_hasUnderlay mo_bound mo_pointX mo_pointY mo_points mo_crossing mo_crossings mo_isKnown mo_commands mo_kind mo_byX mo_byY mo_fieldOf mo_needleX mo_needleY mo_isSewn mo_isTouched mo_thrown mo_rowY x1 x2 x3 x4 x5 x6 x8
def f_X7_covered_L66 (mo_fields : Int) (mo_colour : Int → Int) (mo_layer : Int → Int) (mo_isColumn : Int → Int) (mo_corners : Int → Int) (mo_cornerX : Int → Int) (mo_cornerY : Int → Int) (mo_density : Int → Int) (mo_longest : Int → Int) (mo_shift : Int → Int) (mo_pull : Int → Int) (mo_hasUnderlay : Int → Int) (mo_bound : Int) (mo_pointX : Int → Int) (mo_pointY : Int → Int) (mo_points : Int) (mo_crossing : Int → Int) (mo_crossings : Int) (mo_isKnown : Int) (mo_commands : Int) (mo_kind : Int → Int) (mo_byX : Int → Int) (mo_byY : Int → Int) (mo_fieldOf : Int → Int) (mo_needleX : Int) (mo_needleY : Int) (mo_isSewn : Int → Int) (mo_isTouched : Int → Int) (mo_thrown : Int) (mo_rowY : Int) (x1 : Int) (x2 : Int) (x5 : Int) (x3 : Int) (x4 : Int) (x6 : Int) : Option ((Int × Int × Int) ⊕ (Int × Int × Int)) :=
  zck (zR x6) <|
  if 32 ≤ x6 then
    some (.inr (x3, x4, x6))
  else
    zb2 (zlp (fun z => f_X7_covered_L79 mo_fields mo_colour mo_layer mo_isColumn mo_corners mo_cornerX mo_cornerY mo_density mo_longest mo_shift mo_pull mo_hasUnderlay mo_bound mo_pointX mo_pointY mo_points mo_crossing mo_crossings mo_isKnown mo_commands mo_kind mo_byX mo_byY mo_fieldOf mo_needleX mo_needleY mo_isSewn mo_isTouched mo_thrown mo_rowY x1 x2 x3 x4 x5 x6 z.1 z.2) zFU (0, 0)) fun w29 w30 =>
    zck (zR w29) <|
    if w29 = 0 then
      f_X7_covered_L66_145 mo_fields mo_colour mo_layer mo_isColumn mo_corners mo_cornerX mo_cornerY mo_density mo_longest mo_shift mo_pull mo_hasUnderlay mo_bound mo_pointX mo_pointY mo_points mo_crossing mo_crossings mo_isKnown mo_commands mo_kind mo_byX mo_byY mo_fieldOf mo_needleX mo_needleY mo_isSewn mo_isTouched mo_thrown mo_rowY x1 x2 x4 x5 x6 w29 x3 0
    else
      f_X7_covered_L66_145 mo_fields mo_colour mo_layer mo_isColumn mo_corners mo_cornerX mo_cornerY mo_density mo_longest mo_shift mo_pull mo_hasUnderlay mo_bound mo_pointX mo_pointY mo_points mo_crossing mo_crossings mo_isKnown mo_commands mo_kind mo_byX mo_byY mo_fieldOf mo_needleX mo_needleY mo_isSewn mo_isTouched mo_thrown mo_rowY x1 x2 x4 x5 x6 w29 x3 1
def f_X7_covered_L49 (mo_fields : Int) (mo_colour : Int → Int) (mo_layer : Int → Int) (mo_isColumn : Int → Int) (mo_corners : Int → Int) (mo_cornerX : Int → Int) (mo_cornerY : Int → Int) (mo_density : Int → Int) (mo_longest : Int → Int) (mo_shift : Int → Int) (mo_pull : Int → Int) (mo_hasUnderlay : Int → Int) (mo_bound : Int) (mo_pointX : Int → Int) (mo_pointY : Int → Int) (mo_points : Int) (mo_isKnown : Int) (mo_commands : Int) (mo_kind : Int → Int) (mo_byX : Int → Int) (mo_byY : Int → Int) (mo_fieldOf : Int → Int) (mo_needleX : Int) (mo_needleY : Int) (mo_isSewn : Int → Int) (mo_isTouched : Int → Int) (mo_thrown : Int) (mo_rowY : Int) (x1 : Int) (x2 : Int) (x3 : Int) (x4 : Int) (x5 : Int) (mo_crossing : Int → Int) (mo_crossings : Int) : Option ((Int × Int × Int × (Int → Int) × Int) ⊕ (Int × Int × Int × (Int → Int) × Int)) :=
  zck (zR x5) <|
  if 32 ≤ x5 then
    some (.inr (x3, x4, x5, mo_crossing, mo_crossings))
  else
    zb2 (f_X7_crosses mo_corners mo_cornerX mo_cornerY mo_crossing mo_crossings x1 x5) fun a36 u37 =>
    zb3 (zlp (fun z => f_X7_covered_L66 mo_fields mo_colour mo_layer mo_isColumn mo_corners mo_cornerX mo_cornerY mo_density mo_longest mo_shift mo_pull mo_hasUnderlay mo_bound mo_pointX mo_pointY mo_points a36 u37 mo_isKnown mo_commands mo_kind mo_byX mo_byY mo_fieldOf mo_needleX mo_needleY mo_isSewn mo_isTouched mo_thrown mo_rowY x1 x2 x5 z.1 z.2.1 z.2.2) zFU (x3, x4, 0)) fun w41 w42 w43 =>
    some (.inl (w41, w42, (x5 + 1), a36, u37))
def f_X7_covered (mo_fields : Int) (mo_colour : Int → Int) (mo_layer : Int → Int) (mo_isColumn : Int → Int) (mo_corners : Int → Int) (mo_cornerX : Int → Int) (mo_cornerY : Int → Int) (mo_density : Int → Int) (mo_longest : Int → Int) (mo_shift : Int → Int) (mo_pull : Int → Int) (mo_hasUnderlay : Int → Int) (mo_bound : Int) (mo_pointX : Int → Int) (mo_pointY : Int → Int) (mo_points : Int) (mo_crossing : Int → Int) (mo_crossings : Int) (mo_isKnown : Int) (mo_commands : Int) (mo_kind : Int → Int) (mo_byX : Int → Int) (mo_byY : Int → Int) (mo_fieldOf : Int → Int) (mo_needleX : Int) (mo_needleY : Int) (mo_isSewn : Int → Int) (mo_isTouched : Int → Int) (mo_thrown : Int) (mo_rowY : Int) (p1 : Int) : Option (UInt32 × (Int → Int) × (Int → Int) × Int × (Int → Int) × Int × Int × Int × (Int → Int) × (Int → Int) × (Int → Int) × (Int → Int) × Int × Int × (Int → Int) × (Int → Int) × Int × Int) :=
  zb1 (f_X7_isField mo_fields p1) fun r45 =>
  zb2 (f_X7_asks mo_thrown r45) fun r49 u50 =>
  zck (zR r49) <|
  if r49 = 0 then
    some (0, mo_pointX, mo_pointY, mo_points, mo_crossing, mo_crossings, mo_isKnown, mo_commands, mo_kind, mo_byX, mo_byY, mo_fieldOf, mo_needleX, mo_needleY, mo_isSewn, mo_isTouched, u50, mo_rowY)
  else
    zck (0 ≤ p1 ∧ p1 < 8) <|
    zck (zR (mo_isColumn p1)) <|
    if (mo_isColumn p1) = 0 then
      zck (0 ≤ p1 ∧ p1 < 8) <|
      zck (zR (mo_corners p1)) <|
      if 3 ≤ (mo_corners p1) then
        zb17 (f_X7_touches mo_fields mo_colour mo_layer mo_isColumn mo_corners mo_cornerX mo_cornerY mo_density mo_longest mo_shift mo_pull mo_hasUnderlay mo_bound mo_pointX mo_pointY mo_points mo_crossing mo_crossings mo_isKnown mo_commands mo_kind mo_byX mo_byY mo_fieldOf mo_needleX mo_needleY mo_isSewn mo_isTouched mo_rowY p1) fun r62 a63 a64 u65 a66 u67 u68 u69 a70 a71 a72 a73 u74 u75 a76 a77 u78 =>
        zb5 (zlp (fun z => f_X7_covered_L49 mo_fields mo_colour mo_layer mo_isColumn mo_corners mo_cornerX mo_cornerY mo_density mo_longest mo_shift mo_pull mo_hasUnderlay mo_bound a63 a64 u65 u68 u69 a70 a71 a72 a73 u74 u75 a76 a77 u50 u78 p1 r62 z.1 z.2.1 z.2.2.1 z.2.2.2.1 z.2.2.2.2) zFU (0, 0, 0, a66, u67)) fun w83 w84 w85 w86 w87 =>
        zck (zR w83) <|
        if w83 = 0 then
          some (0, a63, a64, u65, w86, w87, u68, u69, a70, a71, a72, a73, u74, u75, a76, a77, u50, u78)
        else
          zck (zn32 (FP.fdiv (FP.i2f (zI w84)) (FP.i2f (zI w83)))) <|
          some ((FP.fdiv (FP.i2f (zI w84)) (FP.i2f (zI w83))), a63, a64, u65, w86, w87, u68, u69, a70, a71, a72, a73, u74, u75, a76, a77, u50, u78)
      else
        some (0, mo_pointX, mo_pointY, mo_points, mo_crossing, mo_crossings, mo_isKnown, mo_commands, mo_kind, mo_byX, mo_byY, mo_fieldOf, mo_needleX, mo_needleY, mo_isSewn, mo_isTouched, u50, mo_rowY)
    else
      some (0, mo_pointX, mo_pointY, mo_points, mo_crossing, mo_crossings, mo_isKnown, mo_commands, mo_kind, mo_byX, mo_byY, mo_fieldOf, mo_needleX, mo_needleY, mo_isSewn, mo_isTouched, u50, mo_rowY)
def f_X7_touched (mo_fields : Int) (mo_colour : Int → Int) (mo_layer : Int → Int) (mo_isColumn : Int → Int) (mo_corners : Int → Int) (mo_cornerX : Int → Int) (mo_cornerY : Int → Int) (mo_density : Int → Int) (mo_longest : Int → Int) (mo_shift : Int → Int) (mo_pull : Int → Int) (mo_hasUnderlay : Int → Int) (mo_bound : Int) (mo_pointX : Int → Int) (mo_pointY : Int → Int) (mo_points : Int) (mo_crossing : Int → Int) (mo_crossings : Int) (mo_isKnown : Int) (mo_commands : Int) (mo_kind : Int → Int) (mo_byX : Int → Int) (mo_byY : Int → Int) (mo_fieldOf : Int → Int) (mo_needleX : Int) (mo_needleY : Int) (mo_isSewn : Int → Int) (mo_isTouched : Int → Int) (mo_thrown : Int) (mo_rowY : Int) (p1 : Int) : Option (Int × (Int → Int) × (Int → Int) × Int × (Int → Int) × Int × Int × Int × (Int → Int) × (Int → Int) × (Int → Int) × (Int → Int) × Int × Int × (Int → Int) × (Int → Int) × Int × Int) :=
  zb1 (f_X7_isField mo_fields p1) fun r1 =>
  zb2 (f_X7_asks mo_thrown r1) fun r5 u6 =>
  zck (zR r5) <|
  if r5 = 0 then
    some (0, mo_pointX, mo_pointY, mo_points, mo_crossing, mo_crossings, mo_isKnown, mo_commands, mo_kind, mo_byX, mo_byY, mo_fieldOf, mo_needleX, mo_needleY, mo_isSewn, mo_isTouched, u6, mo_rowY)
  else
    zb17 (f_X7_touches mo_fields mo_colour mo_layer mo_isColumn mo_corners mo_cornerX mo_cornerY mo_density mo_longest mo_shift mo_pull mo_hasUnderlay mo_bound mo_pointX mo_pointY mo_points mo_crossing mo_crossings mo_isKnown mo_commands mo_kind mo_byX mo_byY mo_fieldOf mo_needleX mo_needleY mo_isSewn mo_isTouched mo_rowY p1) fun r12 a13 a14 u15 a16 u17 u18 u19 a20 a21 a22 a23 u24 u25 a26 a27 u28 =>
    some (r12, a13, a14, u15, a16, u17, u18, u19, a20, a21, a22, a23, u24, u25, a26, a27, u6, u28)
def f_X7_limitOf (p0 : Int) : Option (Int) :=
  zck (zR p0) <|
  if p0 = 0 then
    some 12
  else
    some 121
def f_X7_writes (mo_format : Int) (mo_length : Int) (mo_bytes : Int → Int) (p1 : Int) (p2 : Int) (p3 : Int) : Option (Int × (Int → Int)) :=
  zck (zR mo_format) <|
  if mo_format = 0 then
    zck (0 ≤ mo_length ∧ mo_length < 70000) <|
    zlt (zup mo_bytes mo_length (((32 * p1) + p2) + 16)) fun a16 =>
    zck (0 ≤ (mo_length + 1) ∧ (mo_length + 1) < 70000) <|
    zlt (zup a16 (mo_length + 1) (p3 + 16)) fun a19 =>
    zlt ((mo_length + 2)) fun v20 =>
    some (v20, a19)
  else
    zck (0 ≤ mo_length ∧ mo_length < 70000) <|
    zlt (zup mo_bytes mo_length p1) fun a5 =>
    zck (0 ≤ (mo_length + 1) ∧ (mo_length + 1) < 70000) <|
    zlt (zup a5 (mo_length + 1) (p2 + 128)) fun a8 =>
    zck (0 ≤ (mo_length + 2) ∧ (mo_length + 2) < 70000) <|
    zlt (zup a8 (mo_length + 2) (p3 + 128)) fun a11 =>
    zlt ((mo_length + 3)) fun v12 =>
    some (v12, a11)
def f_X7_sumTo_L4 (mo_bytes : Int → Int) (x1 : Int) (x2 : Int) (x3 : Int) : Option ((Int × Int) ⊕ (Int × Int)) :=
  zck (zR x3 ∧ zR x1) <|
  if x1 ≤ x3 then
    some (.inr (x2, x3))
  else
    zck (0 ≤ x3 ∧ x3 < 70000) <|
    zlt ((x2 + (mo_bytes x3))) fun v4 =>
    some (.inl (v4, (x3 + 1)))
def f_X7_sumTo (mo_bytes : Int → Int) (p1 : Int) : Option (Int) :=
  zb2 (zlp (fun z => f_X7_sumTo_L4 mo_bytes p1 z.1 z.2) zFU (0, 0)) fun w6 w7 =>
  zck (zR w6) <|
  some (Int.tmod w6 256)
def f_X7_write_L92 (mo_fields : Int) (mo_colour : Int → Int) (mo_layer : Int → Int) (mo_isColumn : Int → Int) (mo_corners : Int → Int) (mo_cornerX : Int → Int) (mo_cornerY : Int → Int) (mo_density : Int → Int) (mo_longest : Int → Int) (mo_shift : Int → Int) (mo_pull : Int → Int) (mo_hasUnderlay : Int → Int) (mo_bound : Int) (mo_pointX : Int → Int) (mo_pointY : Int → Int) (mo_points : Int) (mo_crossing : Int → Int) (mo_crossings : Int) (mo_isKnown : Int) (mo_commands : Int) (mo_kind : Int → Int) (mo_byX : Int → Int) (mo_byY : Int → Int) (mo_fieldOf : Int → Int) (mo_needleX : Int) (mo_needleY : Int) (mo_isSewn : Int → Int) (mo_hasFile : Int) (mo_format : Int) (mo_thrown : Int) (mo_rowY : Int) (x2 : Int) (x3 : Int) (x4 : Int) (x5 : Int) (mo_length : Int) (mo_bytes : Int → Int) : Option ((Int × Int × (Int → Int)) ⊕ (Int × Int × (Int → Int))) :=
  zck (zR x5 ∧ zR x4) <|
  if x4 < x5 then
    some (.inr (x5, mo_length, mo_bytes))
  else
    zck (0 ≤ x3 ∧ x3 < 20000) <|
    zb1 (f_X7_down ((mo_byX x3) * x5) x4) fun r4 =>
    zck (0 ≤ x3 ∧ x3 < 20000) <|
    zb1 (f_X7_down ((mo_byX x3) * (x5 - 1)) x4) fun r9 =>
    zlt ((r4 - r9)) fun v13 =>
    zck (0 ≤ x3 ∧ x3 < 20000) <|
    zb1 (f_X7_down ((mo_byY x3) * x5) x4) fun r15 =>
    zck (0 ≤ x3 ∧ x3 < 20000) <|
    zb1 (f_X7_down ((mo_byY x3) * (x5 - 1)) x4) fun r20 =>
    zlt ((r15 - r20)) fun v24 =>
    zck (0 ≤ x3 ∧ x3 < 20000) <|
    zb2 (f_X7_writes mo_format mo_length mo_bytes (mo_kind x3) v13 v24) fun u26 a27 =>
    some (.inl ((x5 + 1), u26, a27))
def f_X7_write_L49_87 (mo_fields : Int) (mo_colour : Int → Int) (mo_layer : Int → Int) (mo_isColumn : Int → Int) (mo_corners : Int → Int) (mo_cornerX : Int → Int) (mo_cornerY : Int → Int) (mo_density : Int → Int) (mo_longest : Int → Int) (mo_shift : Int → Int) (mo_pull : Int → Int) (mo_hasUnderlay : Int → Int) (mo_bound : Int) (mo_pointX : Int → Int) (mo_pointY : Int → Int) (mo_points : Int) (mo_crossing : Int → Int) (mo_crossings : Int) (mo_isKnown : Int) (mo_commands : Int) (mo_kind : Int → Int) (mo_byX : Int → Int) (mo_byY : Int → Int) (mo_fieldOf : Int → Int) (mo_needleX : Int) (mo_needleY : Int) (mo_isSewn : Int → Int) (mo_hasFile : Int) (mo_format : Int) (mo_length : Int) (mo_bytes : Int → Int) (mo_thrown : Int) (mo_rowY : Int) (x2 : Int) (x3 : Int) (s0 : Int) : Option ((Int × Int × (Int → Int)) ⊕ (Int × Int × (Int → Int))) :=
  zb3 (zlp (fun z => f_X7_write_L92 mo_fields mo_colour mo_layer mo_isColumn mo_corners mo_cornerX mo_cornerY mo_density mo_longest mo_shift mo_pull mo_hasUnderlay mo_bound mo_pointX mo_pointY mo_points mo_crossing mo_crossings mo_isKnown mo_commands mo_kind mo_byX mo_byY mo_fieldOf mo_needleX mo_needleY mo_isSewn mo_hasFile mo_format mo_thrown mo_rowY x2 x3 s0 z.1 z.2.1 z.2.2) zFU (1, mo_length, mo_bytes)) fun w31 w32 w33 =>
  some (.inl ((x3 + 1), w32, w33))
def f_X7_write_L49 (mo_fields : Int) (mo_colour : Int → Int) (mo_layer : Int → Int) (mo_isColumn : Int → Int) (mo_corners : Int → Int) (mo_cornerX : Int → Int) (mo_cornerY : Int → Int) (mo_density : Int → Int) (mo_longest : Int → Int) (mo_shift : Int → Int) (mo_pull : Int → Int) (mo_hasUnderlay : Int → Int) (mo_bound : Int) (mo_pointX : Int → Int) (mo_pointY : Int → Int) (mo_points : Int) (mo_crossing : Int → Int) (mo_crossings : Int) (mo_isKnown : Int) (mo_commands : Int) (mo_kind : Int → Int) (mo_byX : Int → Int) (mo_byY : Int → Int) (mo_fieldOf : Int → Int) (mo_needleX : Int) (mo_needleY : Int) (mo_isSewn : Int → Int) (mo_hasFile : Int) (mo_format : Int) (mo_thrown : Int) (mo_rowY : Int) (x2 : Int) (x3 : Int) (mo_length : Int) (mo_bytes : Int → Int) : Option ((Int × Int × (Int → Int)) ⊕ (Int × Int × (Int → Int))) :=
  zck (zR x3 ∧ zR mo_commands) <|
  if mo_commands ≤ x3 then
    some (.inr (x3, mo_length, mo_bytes))
  else
    zck (0 ≤ x3 ∧ x3 < 20000) <|
    zck (0 ≤ x3 ∧ x3 < 20000) <|
    zb1 (f_X7_steps (mo_byX x3) (mo_byY x3) x2) fun r39 =>
    zck (zR r39) <|
    if 1 ≤ r39 then
      f_X7_write_L49_87 mo_fields mo_colour mo_layer mo_isColumn mo_corners mo_cornerX mo_cornerY mo_density mo_longest mo_shift mo_pull mo_hasUnderlay mo_bound mo_pointX mo_pointY mo_points mo_crossing mo_crossings mo_isKnown mo_commands mo_kind mo_byX mo_byY mo_fieldOf mo_needleX mo_needleY mo_isSewn mo_hasFile mo_format mo_length mo_bytes mo_thrown mo_rowY x2 x3 r39
    else
      f_X7_write_L49_87 mo_fields mo_colour mo_layer mo_isColumn mo_corners mo_cornerX mo_cornerY mo_density mo_longest mo_shift mo_pull mo_hasUnderlay mo_bound mo_pointX mo_pointY mo_points mo_crossing mo_crossings mo_isKnown mo_commands mo_kind mo_byX mo_byY mo_fieldOf mo_needleX mo_needleY mo_isSewn mo_hasFile mo_format mo_length mo_bytes mo_thrown mo_rowY x2 x3 1
def f_X7_write_15 (mo_fields : Int) (mo_colour : Int → Int) (mo_layer : Int → Int) (mo_isColumn : Int → Int) (mo_corners : Int → Int) (mo_cornerX : Int → Int) (mo_cornerY : Int → Int) (mo_density : Int → Int) (mo_longest : Int → Int) (mo_shift : Int → Int) (mo_pull : Int → Int) (mo_hasUnderlay : Int → Int) (mo_bound : Int) (mo_pointX : Int → Int) (mo_pointY : Int → Int) (mo_points : Int) (mo_crossing : Int → Int) (mo_crossings : Int) (mo_isKnown : Int) (mo_commands : Int) (mo_kind : Int → Int) (mo_byX : Int → Int) (mo_byY : Int → Int) (mo_fieldOf : Int → Int) (mo_needleX : Int) (mo_needleY : Int) (mo_isSewn : Int → Int) (mo_hasFile : Int) (mo_format : Int) (mo_length : Int) (mo_bytes : Int → Int) (mo_thrown : Int) (mo_rowY : Int) (x1 : Int) (s1 : Int) : Option (Int × (Int → Int) × (Int → Int) × Int × (Int → Int) × Int × Int × Int × (Int → Int) × (Int → Int) × (Int → Int) × (Int → Int) × Int × Int × (Int → Int) × Int × Int × Int × (Int → Int) × Int × Int) :=
  zb2 (f_X7_asks mo_thrown s1) fun r45 u46 =>
  zck (zR r45) <|
  if r45 = 0 then
    some (0, mo_pointX, mo_pointY, mo_points, mo_crossing, mo_crossings, mo_isKnown, mo_commands, mo_kind, mo_byX, mo_byY, mo_fieldOf, mo_needleX, mo_needleY, mo_isSewn, mo_hasFile, mo_format, mo_length, mo_bytes, u46, mo_rowY)
  else
    zb15 (f_X7_reckons mo_fields mo_colour mo_layer mo_isColumn mo_corners mo_cornerX mo_cornerY mo_density mo_longest mo_shift mo_pull mo_hasUnderlay mo_bound mo_pointX mo_pointY mo_points mo_crossing mo_crossings mo_isKnown mo_commands mo_kind mo_byX mo_byY mo_fieldOf mo_needleX mo_needleY mo_isSewn mo_rowY) fun a52 a53 u54 a55 u56 u57 u58 a59 a60 a61 a62 u63 u64 a65 u66 =>
    zb1 (f_X7_limitOf x1) fun r72 =>
    zb3 (zlp (fun z => f_X7_write_L49 mo_fields mo_colour mo_layer mo_isColumn mo_corners mo_cornerX mo_cornerY mo_density mo_longest mo_shift mo_pull mo_hasUnderlay mo_bound a52 a53 u54 a55 u56 u57 u58 a59 a60 a61 a62 u63 u64 a65 1 x1 u46 u66 r72 z.1 z.2.1 z.2.2) zFU (0, 0, mo_bytes)) fun w77 w78 w79 =>
    zb1 (f_X7_sumTo w79 w78) fun r81 =>
    zck (0 ≤ w78 ∧ w78 < 70000) <|
    zlt (zup w79 w78 r81) fun a87 =>
    zlt ((w78 + 1)) fun v88 =>
    some (v88, a52, a53, u54, a55, u56, u57, u58, a59, a60, a61, a62, u63, u64, a65, 1, x1, v88, a87, u46, u66)
def f_X7_write_10 (mo_fields : Int) (mo_colour : Int → Int) (mo_layer : Int → Int) (mo_isColumn : Int → Int) (mo_corners : Int → Int) (mo_cornerX : Int → Int) (mo_cornerY : Int → Int) (mo_density : Int → Int) (mo_longest : Int → Int) (mo_shift : Int → Int) (mo_pull : Int → Int) (mo_hasUnderlay : Int → Int) (mo_bound : Int) (mo_pointX : Int → Int) (mo_pointY : Int → Int) (mo_points : Int) (mo_crossing : Int → Int) (mo_crossings : Int) (mo_isKnown : Int) (mo_commands : Int) (mo_kind : Int → Int) (mo_byX : Int → Int) (mo_byY : Int → Int) (mo_fieldOf : Int → Int) (mo_needleX : Int) (mo_needleY : Int) (mo_isSewn : Int → Int) (mo_hasFile : Int) (mo_format : Int) (mo_length : Int) (mo_bytes : Int → Int) (mo_thrown : Int) (mo_rowY : Int) (x1 : Int) : Option (Int × (Int → Int) × (Int → Int) × Int × (Int → Int) × Int × Int × Int × (Int → Int) × (Int → Int) × (Int → Int) × (Int → Int) × Int × Int × (Int → Int) × Int × Int × Int × (Int → Int) × Int × Int) :=
  f_X7_write_15 mo_fields mo_colour mo_layer mo_isColumn mo_corners mo_cornerX mo_cornerY mo_density mo_longest mo_shift mo_pull mo_hasUnderlay mo_bound mo_pointX mo_pointY mo_points mo_crossing mo_crossings mo_isKnown mo_commands mo_kind mo_byX mo_byY mo_fieldOf mo_needleX mo_needleY mo_isSewn mo_hasFile mo_format mo_length mo_bytes mo_thrown mo_rowY x1 1
def f_X7_write (mo_fields : Int) (mo_colour : Int → Int) (mo_layer : Int → Int) (mo_isColumn : Int → Int) (mo_corners : Int → Int) (mo_cornerX : Int → Int) (mo_cornerY : Int → Int) (mo_density : Int → Int) (mo_longest : Int → Int) (mo_shift : Int → Int) (mo_pull : Int → Int) (mo_hasUnderlay : Int → Int) (mo_bound : Int) (mo_pointX : Int → Int) (mo_pointY : Int → Int) (mo_points : Int) (mo_crossing : Int → Int) (mo_crossings : Int) (mo_isKnown : Int) (mo_commands : Int) (mo_kind : Int → Int) (mo_byX : Int → Int) (mo_byY : Int → Int) (mo_fieldOf : Int → Int) (mo_needleX : Int) (mo_needleY : Int) (mo_isSewn : Int → Int) (mo_hasFile : Int) (mo_format : Int) (mo_length : Int) (mo_bytes : Int → Int) (mo_thrown : Int) (mo_rowY : Int) (p1 : Int) : Option (Int × (Int → Int) × (Int → Int) × Int × (Int → Int) × Int × Int × Int × (Int → Int) × (Int → Int) × (Int → Int) × (Int → Int) × Int × Int × (Int → Int) × Int × Int × Int × (Int → Int) × Int × Int) :=
  zck (zR p1) <|
  if p1 = 0 then
    f_X7_write_10 mo_fields mo_colour mo_layer mo_isColumn mo_corners mo_cornerX mo_cornerY mo_density mo_longest mo_shift mo_pull mo_hasUnderlay mo_bound mo_pointX mo_pointY mo_points mo_crossing mo_crossings mo_isKnown mo_commands mo_kind mo_byX mo_byY mo_fieldOf mo_needleX mo_needleY mo_isSewn mo_hasFile mo_format mo_length mo_bytes mo_thrown mo_rowY p1
  else
    zck (zR p1) <|
    if p1 = 1 then
      f_X7_write_10 mo_fields mo_colour mo_layer mo_isColumn mo_corners mo_cornerX mo_cornerY mo_density mo_longest mo_shift mo_pull mo_hasUnderlay mo_bound mo_pointX mo_pointY mo_points mo_crossing mo_crossings mo_isKnown mo_commands mo_kind mo_byX mo_byY mo_fieldOf mo_needleX mo_needleY mo_isSewn mo_hasFile mo_format mo_length mo_bytes mo_thrown mo_rowY p1
    else
      f_X7_write_15 mo_fields mo_colour mo_layer mo_isColumn mo_corners mo_cornerX mo_cornerY mo_density mo_longest mo_shift mo_pull mo_hasUnderlay mo_bound mo_pointX mo_pointY mo_points mo_crossing mo_crossings mo_isKnown mo_commands mo_kind mo_byX mo_byY mo_fieldOf mo_needleX mo_needleY mo_isSewn mo_hasFile mo_format mo_length mo_bytes mo_thrown mo_rowY p1 0
def f_X7_byteAt (mo_length : Int) (mo_bytes : Int → Int) (mo_thrown : Int) (p1 : Int) : Option (Int × Int) :=
  zb1 (f_X7_in p1 0 (mo_length - 1)) fun r1 =>
  zb2 (f_X7_asks mo_thrown r1) fun r5 u6 =>
  zck (zR r5) <|
  if r5 = 0 then
    some (0, u6)
  else
    zck (0 ≤ p1 ∧ p1 < 70000) <|
    some ((mo_bytes p1), u6)
def f_X7_damage (mo_length : Int) (mo_bytes : Int → Int) (mo_thrown : Int) (p1 : Int) (p2 : Int) : Option (Int × (Int → Int) × Int) :=
  zb1 (f_X7_in p1 0 (mo_length - 1)) fun r1 =>
  zb2 (f_X7_asks mo_thrown r1) fun r5 u6 =>
  zck (zR r5) <|
  if r5 = 0 then
    some (0, mo_bytes, u6)
  else
    zb1 (f_X7_in p2 0 255) fun r12 =>
    zck (zR r12) <|
    if r12 = 0 then
      zb2 (f_X7_fails u6 2) fun r23 u24 =>
      some (r23, mo_bytes, u24)
    else
      zck (0 ≤ p1 ∧ p1 < 70000) <|
      zlt ((mo_bytes p1)) fun v19 =>
      zck (0 ≤ p1 ∧ p1 < 70000) <|
      zlt (zup mo_bytes p1 p2) fun a22 =>
      some (v19, a22, u6)
def f_X7_shorten (mo_length : Int) (mo_thrown : Int) (p1 : Int) : Option (Int × Int × Int) :=
  zb1 (f_X7_in p1 0 mo_length) fun r1 =>
  zb2 (f_X7_asks mo_thrown r1) fun r5 u6 =>
  zck (zR r5) <|
  if r5 = 0 then
    some (0, mo_length, u6)
  else
    some (mo_length, p1, u6)
def f_X7_isBad (p0 : Int) (p1 : Int) (p2 : Int) : Option (Int) :=
  zck (zR p0) <|
  if p0 ≤ 1 then
    zb1 (f_X7_in p1 (-p2) p2) fun r3 =>
    zck (zR r3) <|
    if r3 = 0 then
      some 1
    else
      some 0
  else
    zck (zR p1) <|
    if p1 = 0 then
      some 0
    else
      some 1
def f_X7_faultAt_172 (mo_format : Int) (mo_length : Int) (mo_bytes : Int → Int) (x2 : Int) (x3 : Int) (x4 : Int) (s0 : Int) (s1 : Int) : Option (Int) :=
  zlt ((s0 - s1)) fun v1 =>
  zb1 (f_X7_isBad x3 v1 x2) fun r2 =>
  zck (zR r2) <|
  if r2 = 0 then
    some (-1)
  else
    some (x4 + 1)
def f_X7_faultAt_117 (mo_format : Int) (mo_length : Int) (mo_bytes : Int → Int) (x2 : Int) (x3 : Int) (x4 : Int) (s0 : Int) : Option (Int) :=
  zb1 (f_X7_isBad x3 s0 x2) fun r8 =>
  zck (zR r8) <|
  if r8 = 0 then
    zck (zR (x4 + 1) ∧ zR mo_length) <|
    if (x4 + 1) < mo_length then
      zck (0 ≤ (x4 + 1) ∧ (x4 + 1) < 70000) <|
      zck (zR mo_format) <|
      if mo_format = 0 then
        f_X7_faultAt_172 mo_format mo_length mo_bytes x2 x3 x4 (mo_bytes (x4 + 1)) 16
      else
        f_X7_faultAt_172 mo_format mo_length mo_bytes x2 x3 x4 (mo_bytes (x4 + 1)) 128
    else
      some mo_length
  else
    some x4
def f_X7_faultAt_68 (mo_format : Int) (mo_length : Int) (mo_bytes : Int → Int) (x1 : Int) (x2 : Int) (x3 : Int) (s0 : Int) : Option (Int) :=
  zck (zR s0 ∧ zR mo_length) <|
  if s0 < mo_length then
    zck (zR mo_format) <|
    if mo_format = 0 then
      zck (0 ≤ x1 ∧ x1 < 70000) <|
      zck (zR (mo_bytes x1)) <|
      f_X7_faultAt_117 mo_format mo_length mo_bytes x2 x3 s0 ((Int.tmod (mo_bytes x1) 32) - 16)
    else
      zck (0 ≤ s0 ∧ s0 < 70000) <|
      f_X7_faultAt_117 mo_format mo_length mo_bytes x2 x3 s0 ((mo_bytes s0) - 128)
  else
    some mo_length
def f_X7_faultAt_46 (mo_format : Int) (mo_length : Int) (mo_bytes : Int → Int) (x1 : Int) (x2 : Int) (s0 : Int) : Option (Int) :=
  zck (zR s0) <|
  if s0 ≤ 4 then
    zck (zR mo_format) <|
    if mo_format = 0 then
      f_X7_faultAt_68 mo_format mo_length mo_bytes x1 x2 s0 x1
    else
      f_X7_faultAt_68 mo_format mo_length mo_bytes x1 x2 s0 (x1 + 1)
  else
    some x1
def f_X7_faultAt (mo_format : Int) (mo_length : Int) (mo_bytes : Int → Int) (p1 : Int) : Option (Int) :=
  zb1 (f_X7_limitOf mo_format) fun r30 =>
  zck (zR p1 ∧ zR mo_length) <|
  if p1 < mo_length then
    zck (zR mo_format) <|
    if mo_format = 0 then
      zck (0 ≤ p1 ∧ p1 < 70000) <|
      zck (zR (mo_bytes p1)) <|
      f_X7_faultAt_46 mo_format mo_length mo_bytes p1 r30 (Int.tdiv (mo_bytes p1) 32)
    else
      zck (0 ≤ p1 ∧ p1 < 70000) <|
      f_X7_faultAt_46 mo_format mo_length mo_bytes p1 r30 (mo_bytes p1)
  else
    some mo_length
def f_X7_reading_143 (mo_hasFile : Int) (mo_format : Int) (mo_length : Int) (mo_bytes : Int → Int) (mo_stitches : Int) (x2 : Int) (s0 : Int) : Option (Int × Int) :=
  zck (zR s0) <|
  if s0 = 0 then
    some (x2, mo_stitches)
  else
    zck (zR (x2 + 1) ∧ zR mo_length) <|
    if mo_length ≤ (x2 + 1) then
      some ((-1), mo_stitches)
    else
      some ((x2 + 1), mo_stitches)
def f_X7_reading_142 (mo_hasFile : Int) (mo_format : Int) (mo_length : Int) (mo_bytes : Int → Int) (mo_stitches : Int) (x2 : Int) : Option (Int × Int) :=
  f_X7_reading_143 mo_hasFile mo_format mo_length mo_bytes mo_stitches x2 0
def f_X7_reading_L31_93 (mo_hasFile : Int) (mo_format : Int) (mo_length : Int) (mo_bytes : Int → Int) (mo_stitches : Int) (x1 : Int) (x2 : Int) (x5 : Int) (s1 : Int) (s2 : Int) : Option ((Int × Int × Int) ⊕ ((Int × Int × Int) ⊕ (Int × Int))) :=
  zlt ((s1 + s2)) fun v5 =>
  zck (zR x5) <|
  if x5 = 4 then
    zlt ((x2 + x1)) fun v10 =>
    some (.inl (v10, 1, v5))
  else
    zlt ((x2 + x1)) fun v9 =>
    some (.inl (v9, 0, v5))
def f_X7_reading_L31_76 (mo_hasFile : Int) (mo_format : Int) (mo_length : Int) (mo_bytes : Int → Int) (mo_stitches : Int) (x1 : Int) (x2 : Int) (s0 : Int) : Option ((Int × Int × Int) ⊕ ((Int × Int × Int) ⊕ (Int × Int))) :=
  zck (zR s0) <|
  if s0 = 0 then
    f_X7_reading_L31_93 mo_hasFile mo_format mo_length mo_bytes mo_stitches x1 x2 s0 mo_stitches 1
  else
    f_X7_reading_L31_93 mo_hasFile mo_format mo_length mo_bytes mo_stitches x1 x2 s0 mo_stitches 0
def f_X7_reading_L31 (mo_hasFile : Int) (mo_format : Int) (mo_length : Int) (mo_bytes : Int → Int) (x1 : Int) (x2 : Int) (x3 : Int) (mo_stitches : Int) : Option ((Int × Int × Int) ⊕ ((Int × Int × Int) ⊕ (Int × Int))) :=
  zck (zR x3) <|
  if x3 = 0 then
    zb1 (f_X7_faultAt mo_format mo_length mo_bytes x2) fun r15 =>
    zck (zR r15) <|
    if r15 = (-1) then
      zck (zR mo_format) <|
      if mo_format = 0 then
        zck (0 ≤ x2 ∧ x2 < 70000) <|
        zck (zR (mo_bytes x2)) <|
        f_X7_reading_L31_76 mo_hasFile mo_format mo_length mo_bytes mo_stitches x1 x2 (Int.tdiv (mo_bytes x2) 32)
      else
        zck (0 ≤ x2 ∧ x2 < 70000) <|
        f_X7_reading_L31_76 mo_hasFile mo_format mo_length mo_bytes mo_stitches x1 x2 (mo_bytes x2)
    else
      some (.inr (.inr (r15, mo_stitches)))
  else
    some (.inr (.inl (x2, x3, mo_stitches)))
def f_X7_reading_26 (mo_hasFile : Int) (mo_format : Int) (mo_length : Int) (mo_bytes : Int → Int) (mo_stitches : Int) (s0 : Int) : Option (Int × Int) :=
  zbs (zlp (fun z => f_X7_reading_L31 mo_hasFile mo_format mo_length mo_bytes s0 z.1 z.2.1 z.2.2) zFU (0, 0, mo_stitches)) (fun (w27, w28, w29) =>
    zck (zR w27 ∧ zR mo_length) <|
    if mo_length ≤ w27 then
      f_X7_reading_142 mo_hasFile mo_format mo_length mo_bytes w29 w27
    else
      zck (0 ≤ w27 ∧ w27 < 70000) <|
      zb1 (f_X7_sumTo mo_bytes w27) fun r36 =>
      zck (zR (mo_bytes w27) ∧ zR r36) <|
      if (mo_bytes w27) = r36 then
        f_X7_reading_143 mo_hasFile mo_format mo_length mo_bytes w29 w27 1
      else
        f_X7_reading_142 mo_hasFile mo_format mo_length mo_bytes w29 w27
  ) (fun b => some b)
def f_X7_reading (mo_hasFile : Int) (mo_format : Int) (mo_length : Int) (mo_bytes : Int → Int) (mo_stitches : Int) : Option (Int × Int) :=
  zck (zR mo_hasFile) <|
  if mo_hasFile = 0 then
    some (0, 0)
  else
    zck (zR mo_format) <|
    if mo_format = 0 then
      f_X7_reading_26 mo_hasFile mo_format mo_length mo_bytes 0 2
    else
      f_X7_reading_26 mo_hasFile mo_format mo_length mo_bytes 0 3
def f_X7_fault (mo_hasFile : Int) (mo_format : Int) (mo_length : Int) (mo_bytes : Int → Int) (mo_thrown : Int) (mo_stitches : Int) : Option (Int × Int × Int) :=
  zb2 (f_X7_reading mo_hasFile mo_format mo_length mo_bytes mo_stitches) fun r2 u3 =>
  some (r2, 0, u3)
def f_X7_reads (mo_hasFile : Int) (mo_format : Int) (mo_length : Int) (mo_bytes : Int → Int) (mo_thrown : Int) (mo_stitches : Int) : Option (Int × Int × Int) :=
  zb2 (f_X7_reading mo_hasFile mo_format mo_length mo_bytes mo_stitches) fun r2 u3 =>
  zck (zR r2) <|
  if (-1) ≤ r2 then
    some (u3, 0, u3)
  else
    some (0, 0, u3)
def f_X7_start_L89 (mo_fields : Int) (mo_colour : Int → Int) (mo_layer : Int → Int) (mo_isColumn : Int → Int) (mo_corners : Int → Int) (mo_cornerX : Int → Int) (mo_cornerY : Int → Int) (mo_density : Int → Int) (mo_longest : Int → Int) (mo_shift : Int → Int) (mo_pull : Int → Int) (mo_hasUnderlay : Int → Int) (mo_bound : Int) (mo_pointX : Int → Int) (mo_pointY : Int → Int) (mo_points : Int) (mo_crossing : Int → Int) (mo_crossings : Int) (mo_isKnown : Int) (mo_commands : Int) (mo_kind : Int → Int) (mo_byX : Int → Int) (mo_byY : Int → Int) (mo_fieldOf : Int → Int) (mo_needleX : Int) (mo_needleY : Int) (mo_isSewn : Int → Int) (mo_heads : Int) (mo_late : Int) (mo_ran : Int) (mo_program : Int) (mo_kinds : Int → Int) (mo_thrown : Int) (mo_rowY : Int) (x3 : Int) (mo_brokenAt : Int → Int) (mo_sewn : Int → Int) : Option ((Int × (Int → Int) × (Int → Int)) ⊕ (Int × (Int → Int) × (Int → Int))) :=
  zck (zR x3) <|
  if 4 ≤ x3 then
    some (.inr (x3, mo_brokenAt, mo_sewn))
  else
    zck (0 ≤ x3 ∧ x3 < 4) <|
    zlt (zup mo_brokenAt x3 (-1)) fun a5 =>
    zck (0 ≤ x3 ∧ x3 < 4) <|
    zlt (zup mo_sewn x3 0) fun a8 =>
    some (.inl ((x3 + 1), a5, a8))
def f_X7_start_L61 (mo_fields : Int) (mo_colour : Int → Int) (mo_layer : Int → Int) (mo_isColumn : Int → Int) (mo_corners : Int → Int) (mo_cornerX : Int → Int) (mo_cornerY : Int → Int) (mo_density : Int → Int) (mo_longest : Int → Int) (mo_shift : Int → Int) (mo_pull : Int → Int) (mo_hasUnderlay : Int → Int) (mo_bound : Int) (mo_pointX : Int → Int) (mo_pointY : Int → Int) (mo_points : Int) (mo_crossing : Int → Int) (mo_crossings : Int) (mo_isKnown : Int) (mo_commands : Int) (mo_kind : Int → Int) (mo_byX : Int → Int) (mo_byY : Int → Int) (mo_fieldOf : Int → Int) (mo_needleX : Int) (mo_needleY : Int) (mo_isSewn : Int → Int) (mo_heads : Int) (mo_late : Int) (mo_ran : Int) (mo_program : Int) (mo_brokenAt : Int → Int) (mo_sewn : Int → Int) (mo_thrown : Int) (mo_rowY : Int) (x3 : Int) (mo_kinds : Int → Int) : Option ((Int × (Int → Int)) ⊕ (Int × (Int → Int))) :=
  zck (zR x3 ∧ zR mo_commands) <|
  if mo_commands ≤ x3 then
    some (.inr (x3, mo_kinds))
  else
    zck (0 ≤ x3 ∧ x3 < 20000) <|
    zck (0 ≤ x3 ∧ x3 < 20000) <|
    zlt (zup mo_kinds x3 (mo_kind x3)) fun a14 =>
    some (.inl ((x3 + 1), a14))
def f_X7_start_25 (mo_fields : Int) (mo_colour : Int → Int) (mo_layer : Int → Int) (mo_isColumn : Int → Int) (mo_corners : Int → Int) (mo_cornerX : Int → Int) (mo_cornerY : Int → Int) (mo_density : Int → Int) (mo_longest : Int → Int) (mo_shift : Int → Int) (mo_pull : Int → Int) (mo_hasUnderlay : Int → Int) (mo_bound : Int) (mo_pointX : Int → Int) (mo_pointY : Int → Int) (mo_points : Int) (mo_crossing : Int → Int) (mo_crossings : Int) (mo_isKnown : Int) (mo_commands : Int) (mo_kind : Int → Int) (mo_byX : Int → Int) (mo_byY : Int → Int) (mo_fieldOf : Int → Int) (mo_needleX : Int) (mo_needleY : Int) (mo_isSewn : Int → Int) (mo_heads : Int) (mo_late : Int) (mo_ran : Int) (mo_program : Int) (mo_kinds : Int → Int) (mo_brokenAt : Int → Int) (mo_sewn : Int → Int) (mo_thrown : Int) (mo_rowY : Int) (x1 : Int) (x2 : Int) (s1 : Int) : Option ((Int → Int) × (Int → Int) × Int × (Int → Int) × Int × Int × Int × (Int → Int) × (Int → Int) × (Int → Int) × (Int → Int) × Int × Int × (Int → Int) × Int × Int × Int × Int × (Int → Int) × (Int → Int) × (Int → Int) × Int × Int) :=
  zb2 (f_X7_asks mo_thrown s1) fun r15 u16 =>
  zck (zR r15) <|
  if r15 = 0 then
    some (mo_pointX, mo_pointY, mo_points, mo_crossing, mo_crossings, mo_isKnown, mo_commands, mo_kind, mo_byX, mo_byY, mo_fieldOf, mo_needleX, mo_needleY, mo_isSewn, mo_heads, mo_late, mo_ran, mo_program, mo_kinds, mo_brokenAt, mo_sewn, u16, mo_rowY)
  else
    zb15 (f_X7_reckons mo_fields mo_colour mo_layer mo_isColumn mo_corners mo_cornerX mo_cornerY mo_density mo_longest mo_shift mo_pull mo_hasUnderlay mo_bound mo_pointX mo_pointY mo_points mo_crossing mo_crossings mo_isKnown mo_commands mo_kind mo_byX mo_byY mo_fieldOf mo_needleX mo_needleY mo_isSewn mo_rowY) fun a22 a23 u24 a25 u26 u27 u28 a29 a30 a31 a32 u33 u34 a35 u36 =>
    zb2 (zlp (fun z => f_X7_start_L61 mo_fields mo_colour mo_layer mo_isColumn mo_corners mo_cornerX mo_cornerY mo_density mo_longest mo_shift mo_pull mo_hasUnderlay mo_bound a22 a23 u24 a25 u26 u27 u28 a29 a30 a31 a32 u33 u34 a35 x1 x2 0 u28 mo_brokenAt mo_sewn u16 u36 z.1 z.2) zFU (0, mo_kinds)) fun w44 w45 =>
    zb3 (zlp (fun z => f_X7_start_L89 mo_fields mo_colour mo_layer mo_isColumn mo_corners mo_cornerX mo_cornerY mo_density mo_longest mo_shift mo_pull mo_hasUnderlay mo_bound a22 a23 u24 a25 u26 u27 u28 a29 a30 a31 a32 u33 u34 a35 x1 x2 0 u28 w45 u16 u36 z.1 z.2.1 z.2.2) zFU (0, mo_brokenAt, mo_sewn)) fun w48 w49 w50 =>
    some (a22, a23, u24, a25, u26, u27, u28, a29, a30, a31, a32, u33, u34, a35, x1, x2, 0, u28, w45, w49, w50, u16, u36)
def f_X7_start_24 (mo_fields : Int) (mo_colour : Int → Int) (mo_layer : Int → Int) (mo_isColumn : Int → Int) (mo_corners : Int → Int) (mo_cornerX : Int → Int) (mo_cornerY : Int → Int) (mo_density : Int → Int) (mo_longest : Int → Int) (mo_shift : Int → Int) (mo_pull : Int → Int) (mo_hasUnderlay : Int → Int) (mo_bound : Int) (mo_pointX : Int → Int) (mo_pointY : Int → Int) (mo_points : Int) (mo_crossing : Int → Int) (mo_crossings : Int) (mo_isKnown : Int) (mo_commands : Int) (mo_kind : Int → Int) (mo_byX : Int → Int) (mo_byY : Int → Int) (mo_fieldOf : Int → Int) (mo_needleX : Int) (mo_needleY : Int) (mo_isSewn : Int → Int) (mo_heads : Int) (mo_late : Int) (mo_ran : Int) (mo_program : Int) (mo_kinds : Int → Int) (mo_brokenAt : Int → Int) (mo_sewn : Int → Int) (mo_thrown : Int) (mo_rowY : Int) (x1 : Int) (x2 : Int) : Option ((Int → Int) × (Int → Int) × Int × (Int → Int) × Int × Int × Int × (Int → Int) × (Int → Int) × (Int → Int) × (Int → Int) × Int × Int × (Int → Int) × Int × Int × Int × Int × (Int → Int) × (Int → Int) × (Int → Int) × Int × Int) :=
  f_X7_start_25 mo_fields mo_colour mo_layer mo_isColumn mo_corners mo_cornerX mo_cornerY mo_density mo_longest mo_shift mo_pull mo_hasUnderlay mo_bound mo_pointX mo_pointY mo_points mo_crossing mo_crossings mo_isKnown mo_commands mo_kind mo_byX mo_byY mo_fieldOf mo_needleX mo_needleY mo_isSewn mo_heads mo_late mo_ran mo_program mo_kinds mo_brokenAt mo_sewn mo_thrown mo_rowY x1 x2 0
def f_X7_start (mo_fields : Int) (mo_colour : Int → Int) (mo_layer : Int → Int) (mo_isColumn : Int → Int) (mo_corners : Int → Int) (mo_cornerX : Int → Int) (mo_cornerY : Int → Int) (mo_density : Int → Int) (mo_longest : Int → Int) (mo_shift : Int → Int) (mo_pull : Int → Int) (mo_hasUnderlay : Int → Int) (mo_bound : Int) (mo_pointX : Int → Int) (mo_pointY : Int → Int) (mo_points : Int) (mo_crossing : Int → Int) (mo_crossings : Int) (mo_isKnown : Int) (mo_commands : Int) (mo_kind : Int → Int) (mo_byX : Int → Int) (mo_byY : Int → Int) (mo_fieldOf : Int → Int) (mo_needleX : Int) (mo_needleY : Int) (mo_isSewn : Int → Int) (mo_heads : Int) (mo_late : Int) (mo_ran : Int) (mo_program : Int) (mo_kinds : Int → Int) (mo_brokenAt : Int → Int) (mo_sewn : Int → Int) (mo_thrown : Int) (mo_rowY : Int) (p1 : Int) (p2 : Int) : Option ((Int → Int) × (Int → Int) × Int × (Int → Int) × Int × Int × Int × (Int → Int) × (Int → Int) × (Int → Int) × (Int → Int) × Int × Int × (Int → Int) × Int × Int × Int × Int × (Int → Int) × (Int → Int) × (Int → Int) × Int × Int) :=
  zb1 (f_X7_in p1 1 4) fun r52 =>
  zck (zR r52) <|
  if r52 = 0 then
    f_X7_start_24 mo_fields mo_colour mo_layer mo_isColumn mo_corners mo_cornerX mo_cornerY mo_density mo_longest mo_shift mo_pull mo_hasUnderlay mo_bound mo_pointX mo_pointY mo_points mo_crossing mo_crossings mo_isKnown mo_commands mo_kind mo_byX mo_byY mo_fieldOf mo_needleX mo_needleY mo_isSewn mo_heads mo_late mo_ran mo_program mo_kinds mo_brokenAt mo_sewn mo_thrown mo_rowY p1 p2
  else
    zb1 (f_X7_in p2 0 20) fun r58 =>
    zck (zR r58) <|
    if r58 = 0 then
      f_X7_start_24 mo_fields mo_colour mo_layer mo_isColumn mo_corners mo_cornerX mo_cornerY mo_density mo_longest mo_shift mo_pull mo_hasUnderlay mo_bound mo_pointX mo_pointY mo_points mo_crossing mo_crossings mo_isKnown mo_commands mo_kind mo_byX mo_byY mo_fieldOf mo_needleX mo_needleY mo_isSewn mo_heads mo_late mo_ran mo_program mo_kinds mo_brokenAt mo_sewn mo_thrown mo_rowY p1 p2
    else
      f_X7_start_25 mo_fields mo_colour mo_layer mo_isColumn mo_corners mo_cornerX mo_cornerY mo_density mo_longest mo_shift mo_pull mo_hasUnderlay mo_bound mo_pointX mo_pointY mo_points mo_crossing mo_crossings mo_isKnown mo_commands mo_kind mo_byX mo_byY mo_fieldOf mo_needleX mo_needleY mo_isSewn mo_heads mo_late mo_ran mo_program mo_kinds mo_brokenAt mo_sewn mo_thrown mo_rowY p1 p2 1
def f_X7_isHead (mo_heads : Int) (p1 : Int) : Option (Int) :=
  zb1 (f_X7_in p1 0 (mo_heads - 1)) fun r1 =>
  zck (r1 = 0 ∨ r1 = 1) <|
  some r1
def f_X7_isSeen_39 (mo_late : Int) (mo_ran : Int) (mo_program : Int) (mo_brokenAt : Int → Int) : Option (Int) :=
  some 1
def f_X7_isSeen (mo_late : Int) (mo_ran : Int) (mo_program : Int) (mo_brokenAt : Int → Int) (p1 : Int) : Option (Int) :=
  zck (0 ≤ p1 ∧ p1 < 4) <|
  zck (zR (mo_brokenAt p1)) <|
  if (mo_brokenAt p1) = (-1) then
    some 0
  else
    zck (0 ≤ p1 ∧ p1 < 4) <|
    zck (zR mo_ran ∧ zR ((mo_brokenAt p1) + mo_late)) <|
    if ((mo_brokenAt p1) + mo_late) ≤ mo_ran then
      f_X7_isSeen_39 mo_late mo_ran mo_program mo_brokenAt
    else
      zck (zR mo_ran ∧ zR mo_program) <|
      if mo_ran = mo_program then
        f_X7_isSeen_39 mo_late mo_ran mo_program mo_brokenAt
      else
        some 0
def f_X7_stands_L4_24 (mo_heads : Int) (mo_late : Int) (mo_ran : Int) (mo_program : Int) (mo_brokenAt : Int → Int) (x2 : Int) : Option ((Int × Int) ⊕ (Int × Int)) :=
  some (.inl (1, (x2 + 1)))
def f_X7_stands_L4 (mo_heads : Int) (mo_late : Int) (mo_ran : Int) (mo_program : Int) (mo_brokenAt : Int → Int) (x1 : Int) (x2 : Int) : Option ((Int × Int) ⊕ (Int × Int)) :=
  zck (zR x2 ∧ zR mo_heads) <|
  if mo_heads ≤ x2 then
    some (.inr (x1, x2))
  else
    zck (zR x1) <|
    if x1 = 0 then
      zb1 (f_X7_isSeen mo_late mo_ran mo_program mo_brokenAt x2) fun r5 =>
      zck (zR r5) <|
      if r5 = 0 then
        some (.inl (0, (x2 + 1)))
      else
        f_X7_stands_L4_24 mo_heads mo_late mo_ran mo_program mo_brokenAt x2
    else
      f_X7_stands_L4_24 mo_heads mo_late mo_ran mo_program mo_brokenAt x2
def f_X7_stands (mo_heads : Int) (mo_late : Int) (mo_ran : Int) (mo_program : Int) (mo_brokenAt : Int → Int) : Option (Int) :=
  zb2 (zlp (fun z => f_X7_stands_L4 mo_heads mo_late mo_ran mo_program mo_brokenAt z.1 z.2) zFU (0, 0)) fun w12 w13 =>
  zck (w12 = 0 ∨ w12 = 1) <|
  some w12
def f_X7_run_L57_99 (mo_heads : Int) (mo_late : Int) (mo_ran : Int) (mo_program : Int) (mo_kinds : Int → Int) (mo_brokenAt : Int → Int) (mo_sewn : Int → Int) (mo_thrown : Int) (x1 : Int) (x2 : Int) (x3 : Int) (s1 : Int) (s2 : Int) (s3 : Int) : Option ((Int × (Int → Int)) ⊕ (Int × (Int → Int))) :=
  zck (0 ≤ s1 ∧ s1 < 4) <|
  zlt (zup mo_sewn s1 (s2 + s3)) fun a3 =>
  some (.inl ((x3 + 1), a3))
def f_X7_run_L57_98 (mo_heads : Int) (mo_late : Int) (mo_ran : Int) (mo_program : Int) (mo_kinds : Int → Int) (mo_brokenAt : Int → Int) (mo_sewn : Int → Int) (mo_thrown : Int) (x1 : Int) (x2 : Int) (x3 : Int) (s1 : Int) (s2 : Int) : Option ((Int × (Int → Int)) ⊕ (Int × (Int → Int))) :=
  f_X7_run_L57_99 mo_heads mo_late mo_ran mo_program mo_kinds mo_brokenAt mo_sewn mo_thrown x1 x2 x3 s1 s2 0
def f_X7_run_L57 (mo_heads : Int) (mo_late : Int) (mo_ran : Int) (mo_program : Int) (mo_kinds : Int → Int) (mo_brokenAt : Int → Int) (mo_thrown : Int) (x1 : Int) (x2 : Int) (x3 : Int) (mo_sewn : Int → Int) : Option ((Int × (Int → Int)) ⊕ (Int × (Int → Int))) :=
  zck (zR x3 ∧ zR mo_heads) <|
  if mo_heads ≤ x3 then
    some (.inr (x3, mo_sewn))
  else
    zck (0 ≤ x3 ∧ x3 < 4) <|
    zck (0 ≤ mo_ran ∧ mo_ran < 20000) <|
    zck (zR (mo_kinds mo_ran)) <|
    if (mo_kinds mo_ran) = 0 then
      zck (0 ≤ x3 ∧ x3 < 4) <|
      zck (zR (mo_brokenAt x3)) <|
      if (mo_brokenAt x3) = (-1) then
        f_X7_run_L57_99 mo_heads mo_late mo_ran mo_program mo_kinds mo_brokenAt mo_sewn mo_thrown x1 x2 x3 x3 (mo_sewn x3) 1
      else
        f_X7_run_L57_98 mo_heads mo_late mo_ran mo_program mo_kinds mo_brokenAt mo_sewn mo_thrown x1 x2 x3 x3 (mo_sewn x3)
    else
      f_X7_run_L57_98 mo_heads mo_late mo_ran mo_program mo_kinds mo_brokenAt mo_sewn mo_thrown x1 x2 x3 x3 (mo_sewn x3)
def f_X7_run_L32 (mo_heads : Int) (mo_late : Int) (mo_program : Int) (mo_kinds : Int → Int) (mo_brokenAt : Int → Int) (mo_thrown : Int) (x1 : Int) (x2 : Int) (mo_ran : Int) (mo_sewn : Int → Int) : Option ((Int × Int × (Int → Int)) ⊕ (Int × Int × (Int → Int))) :=
  zck (zR x2 ∧ zR x1) <|
  if x1 ≤ x2 then
    some (.inr (x2, mo_ran, mo_sewn))
  else
    zck (zR mo_ran ∧ zR mo_program) <|
    if mo_program ≤ mo_ran then
      some (.inr (x2, mo_ran, mo_sewn))
    else
      zb1 (f_X7_stands mo_heads mo_late mo_ran mo_program mo_brokenAt) fun r17 =>
      zck (zR r17) <|
      if r17 = 0 then
        zb2 (zlp (fun z => f_X7_run_L57 mo_heads mo_late mo_ran mo_program mo_kinds mo_brokenAt mo_thrown x1 x2 z.1 z.2) zFU (0, mo_sewn)) fun w24 w25 =>
        zlt ((mo_ran + 1)) fun v27 =>
        some (.inl ((x2 + 1), v27, w25))
      else
        some (.inr (x2, mo_ran, mo_sewn))
def f_X7_run (mo_heads : Int) (mo_late : Int) (mo_ran : Int) (mo_program : Int) (mo_kinds : Int → Int) (mo_brokenAt : Int → Int) (mo_sewn : Int → Int) (mo_thrown : Int) (p1 : Int) : Option (Int × Int × (Int → Int) × Int) :=
  zb1 (f_X7_in p1 1 1000) fun r29 =>
  zb2 (f_X7_asks mo_thrown r29) fun r33 u34 =>
  zck (zR r33) <|
  if r33 = 0 then
    some (0, mo_ran, mo_sewn, u34)
  else
    zck (zR mo_heads) <|
    if mo_heads = 0 then
      zb2 (f_X7_fails u34 2) fun r47 u48 =>
      some (r47, mo_ran, mo_sewn, u48)
    else
      zb3 (zlp (fun z => f_X7_run_L32 mo_heads mo_late mo_program mo_kinds mo_brokenAt u34 p1 z.1 z.2.1 z.2.2) zFU (0, mo_ran, mo_sewn)) fun w43 w44 w45 =>
      some (w43, w44, w45, u34)
def f_X7_breaks (mo_heads : Int) (mo_ran : Int) (mo_brokenAt : Int → Int) (mo_thrown : Int) (p1 : Int) : Option ((Int → Int) × Int) :=
  zb1 (f_X7_isHead mo_heads p1) fun r1 =>
  zb2 (f_X7_asks mo_thrown r1) fun r5 u6 =>
  zck (zR r5) <|
  if r5 = 0 then
    some (mo_brokenAt, u6)
  else
    zck (0 ≤ p1 ∧ p1 < 4) <|
    zck (zR (mo_brokenAt p1)) <|
    if (mo_brokenAt p1) = (-1) then
      zck (0 ≤ p1 ∧ p1 < 4) <|
      zlt (zup mo_brokenAt p1 mo_ran) fun a17 =>
      some (a17, u6)
    else
      some (mo_brokenAt, 2)
def f_X7_mend_L43 (mo_heads : Int) (mo_late : Int) (mo_ran : Int) (mo_program : Int) (mo_kinds : Int → Int) (mo_brokenAt : Int → Int) (mo_sewn : Int → Int) (mo_thrown : Int) (x1 : Int) (x2 : Int) (x3 : Int) : Option ((Int × Int) ⊕ (Int × Int)) :=
  zck (zR x3 ∧ zR mo_ran) <|
  if mo_ran ≤ x3 then
    some (.inr (x2, x3))
  else
    zck (0 ≤ x3 ∧ x3 < 20000) <|
    zck (zR (mo_kinds x3)) <|
    if (mo_kinds x3) = 0 then
      zlt ((x2 + 1)) fun v7 =>
      some (.inl (v7, (x3 + 1)))
    else
      zlt ((x2 + 0)) fun v6 =>
      some (.inl (v6, (x3 + 1)))
def f_X7_mend (mo_heads : Int) (mo_late : Int) (mo_ran : Int) (mo_program : Int) (mo_kinds : Int → Int) (mo_brokenAt : Int → Int) (mo_sewn : Int → Int) (mo_thrown : Int) (p1 : Int) : Option (Int × (Int → Int) × (Int → Int) × Int) :=
  zb1 (f_X7_isHead mo_heads p1) fun r8 =>
  zb2 (f_X7_asks mo_thrown r8) fun r12 u13 =>
  zck (zR r12) <|
  if r12 = 0 then
    some (0, mo_brokenAt, mo_sewn, u13)
  else
    zb1 (f_X7_isSeen mo_late mo_ran mo_program mo_brokenAt p1) fun r19 =>
    zck (zR r19) <|
    if r19 = 0 then
      zb2 (f_X7_fails u13 2) fun r41 u42 =>
      some (r41, mo_brokenAt, mo_sewn, u42)
    else
      zck (0 ≤ p1 ∧ p1 < 4) <|
      zb1 (f_X7_greater 0 ((mo_brokenAt p1) - 3)) fun r26 =>
      zb2 (zlp (fun z => f_X7_mend_L43 mo_heads mo_late mo_ran mo_program mo_kinds mo_brokenAt mo_sewn u13 p1 z.1 z.2) zFU (0, r26)) fun w31 w32 =>
      zck (0 ≤ p1 ∧ p1 < 4) <|
      zlt (zup mo_brokenAt p1 (-1)) fun a36 =>
      zck (0 ≤ p1 ∧ p1 < 4) <|
      zck (0 ≤ p1 ∧ p1 < 4) <|
      zlt (zup mo_sewn p1 ((mo_sewn p1) + w31)) fun a40 =>
      some (w31, a36, a40, u13)
def f_X7_sewn (mo_heads : Int) (mo_sewn : Int → Int) (mo_thrown : Int) (p1 : Int) : Option (Int × Int) :=
  zb1 (f_X7_isHead mo_heads p1) fun r1 =>
  zb2 (f_X7_asks mo_thrown r1) fun r5 u6 =>
  zck (zR r5) <|
  if r5 = 0 then
    some (0, u6)
  else
    zck (0 ≤ p1 ∧ p1 < 4) <|
    some ((mo_sewn p1), u6)
