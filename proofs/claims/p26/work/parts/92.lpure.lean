/-! ===== the law's own methods as pure functions over the objects' values ===== -/
noncomputable def f_L_some (p0 : Int) (p1 : Int) : Option (Int) :=
  zck ((zR (yus p0 1) ∧ zR p1) ∧ p1 ≠ 0) <|
  some (Int.tmod (yus p0 1) p1)
noncomputable def f_L_size (p0 : Int) : Option (Int) :=
  zck (zR p0) <|
  if 0 ≤ p0 then
    some p0
  else
    some (-p0)
noncomputable def f_L_does_98 (S1 : yS) (s1 : Int) (s2 : Int) (s3 : Int) : Option (Int × Int × yS) :=
  zck (s3 = 0 ∨ s3 = 1) <|
  zck (zR s1) <|
  zck (zR s2) <|
  zlt (y_field S1 s1 s2 s3) fun y4 =>
  if ¬ y4.1 = 0 then some (y4.1, 0, y4.2.2) else
  some (0, y4.2.1, y4.2.2)
noncomputable def f_L_does (S1 : yS) (p1 : Int) (p2 : Int) (p3 : Int) (p4 : Int) : Option (Int × Int × yS) :=
  zck (zR p1) <|
  if p1 = 0 then
    zck (zR p4) <|
    if p4 = 1 then
      f_L_does_98 S1 p2 p3 1
    else
      f_L_does_98 S1 p2 p3 0
  else
    if p1 = 1 then
      zck (zR p2) <|
      zck (zR p3) <|
      zck (zR p4) <|
      zlt (y_corner S1 p2 p3 p4) fun y12 =>
      if ¬ y12.1 = 0 then some (y12.1, 0, y12.2.2) else
      some (0, y12.2.1, y12.2.2)
    else
      if p1 = 2 then
        zck (zR p2) <|
        zck (zR p3) <|
        zlt (y_scale S1 p2 p3) fun y15 =>
        if ¬ y15.1 = 0 then some (y15.1, 0, y15.2) else
        some (0, 0, y15.2)
      else
        if p1 = 3 then
          zck (zR p2) <|
          zlt (y_bound S1 p2) fun y17 =>
          if ¬ y17.1 = 0 then some (y17.1, 0, y17.2.2) else
          some (0, y17.2.1, y17.2.2)
        else
          if p1 = 4 then
            zck (zR p2) <|
            zck (zR p3) <|
            zlt (y_ofCommand S1 p2 p3) fun y20 =>
            if ¬ y20.1 = 0 then some (y20.1, 0, S1) else
            some (0, y20.2, S1)
          else
            if p1 = 5 then
              zck (zR p2) <|
              zlt (y_count S1 p2) fun y22 =>
              if ¬ y22.1 = 0 then some (y22.1, 0, S1) else
              some (0, y22.2, S1)
            else
              if p1 = 6 then
                zck (zR p2) <|
                zlt (y_thread S1 p2) fun y24 =>
                if ¬ y24.1 = 0 then some (y24.1, 0, S1) else
                some (0, y24.2, S1)
              else
                if p1 = 7 then
                  zck (zR p2) <|
                  zlt (y_covered S1 p2) fun y26 =>
                  if ¬ y26.1 = 0 then some (y26.1, 0, S1) else
                  zck (zR (yfc (y26.2) 0)) <|
                  if (yfc (y26.2) 0) ≤ 0 then
                    some (0, 0, S1)
                  else
                    some (0, 1, S1)
                else
                  if p1 = 8 then
                    zck (zR p2) <|
                    zlt (y_touched S1 p2) fun y30 =>
                    if ¬ y30.1 = 0 then some (y30.1, 0, S1) else
                    some (0, y30.2, S1)
                  else
                    if p1 = 9 then
                      zck (zR p2) <|
                      zlt (y_write S1 p2) fun y32 =>
                      if ¬ y32.1 = 0 then some (y32.1, 0, y32.2.2) else
                      some (0, y32.2.1, y32.2.2)
                    else
                      if p1 = 10 then
                        zck (zR p2) <|
                        zlt (y_byteAt S1 p2) fun y34 =>
                        if ¬ y34.1 = 0 then some (y34.1, 0, S1) else
                        some (0, y34.2, S1)
                      else
                        if p1 = 11 then
                          zck (zR p2) <|
                          zck (zR p3) <|
                          zlt (y_damage S1 p2 p3) fun y37 =>
                          if ¬ y37.1 = 0 then some (y37.1, 0, y37.2.2) else
                          some (0, y37.2.1, y37.2.2)
                        else
                          if p1 = 12 then
                            zck (zR p2) <|
                            zlt (y_shorten S1 p2) fun y39 =>
                            if ¬ y39.1 = 0 then some (y39.1, 0, y39.2.2) else
                            some (0, y39.2.1, y39.2.2)
                          else
                            if p1 = 13 then
                              zck (zR p2) <|
                              zck (zR p3) <|
                              zlt (y_start S1 p2 p3) fun y42 =>
                              if ¬ y42.1 = 0 then some (y42.1, 0, y42.2) else
                              some (0, 0, y42.2)
                            else
                              if p1 = 14 then
                                zck (zR p2) <|
                                zlt (y_run S1 p2) fun y44 =>
                                if ¬ y44.1 = 0 then some (y44.1, 0, y44.2.2) else
                                some (0, y44.2.1, y44.2.2)
                              else
                                if p1 = 15 then
                                  zck (zR p2) <|
                                  zlt (y_breaks S1 p2) fun y46 =>
                                  if ¬ y46.1 = 0 then some (y46.1, 0, y46.2) else
                                  some (0, 0, y46.2)
                                else
                                  if p1 = 16 then
                                    zck (zR p2) <|
                                    zlt (y_mend S1 p2) fun y48 =>
                                    if ¬ y48.1 = 0 then some (y48.1, 0, y48.2.2) else
                                    some (0, y48.2.1, y48.2.2)
                                  else
                                    zck (zR p2) <|
                                    zlt (y_sewn S1 p2) fun y50 =>
                                    if ¬ y50.1 = 0 then some (y50.1, 0, S1) else
                                    some (0, y50.2, S1)
noncomputable def yCode (t r : Int) : Int := if t = 1 then (-2000000002) else if t = 2 then (-2000000003) else if t = 3 then (-2000000001) else r
noncomputable def f_L_call (S1 : yS) (p1 p2 p3 p4 : Int) : Option (Int × yS) :=
  zb3 (f_L_does S1 p1 p2 p3 p4) fun t r s1 =>
  some (yCode t r, s1)
noncomputable def f_L_sew (S1 : yS) (p1 p2 p3 p4 p5 p6 : Int) : Option (Int × yS) :=
  zck (zR p1 ∧ zR p2 ∧ zR p3 ∧ zR p4 ∧ zR p5) <|
  zck (p6 = 0 ∨ p6 = 1) <|
  zck (¬ (y_sew S1 p1 p2 p3 p4 p5 p6).1 = 2) <|
  some (yCode (y_sew S1 p1 p2 p3 p4 p5 p6).1 0, (y_sew S1 p1 p2 p3 p4 p5 p6).2)
noncomputable def f_L_both (S1 : yS) (S2 : yS) (p2 : Int) (p3 : Int) (p4 : Int) (p5 : Int) : Option (Int × yS × yS) :=
  zb2 (f_L_call S1 p2 p3 p4 p5) fun r1 s2 =>
  zb2 (f_L_call S2 p2 p3 p4 p5) fun r4 s5 =>
  zck (zR r1 ∧ zR r4) <|
  if r1 = r4 then
    some (r1, s2, s5)
  else
    some ((-2000000099), s2, s5)
noncomputable def f_L_all_L131 (S1 : yS) (dv : Int → Int) (x2 : Int64) (x4 : Int) : Option ((Int64 × Int) ⊕ (Int64 × Int)) :=
  zck (zR x4 ∧ zR (dv 3)) <|
  if (dv 3) ≤ x4 then
    some (.inr (x2, x4))
  else
    zck (zR x4) <|
    zlt (y_sewn S1 x4) fun y4 =>
    zck (y4.1 = 0) <|
    zlt (((x2 * 9001) + ((zI (y4.2)).toInt64))) fun v6 =>
    some (.inl (v6, (x4 + 1)))
noncomputable def f_L_all_128 (S1 : yS) (dv : Int → Int) (x2 : Int64) : Option (Int64) :=
  zb2 (zlp (fun z => f_L_all_L131 S1 dv z.1 z.2) zFU (x2, 0)) fun w8 w9 =>
  zlt (y_fault S1) fun y10 =>
  zlt (y_reads S1) fun y11 =>
  some ((((w8 * 127) + ((zI y10).toInt64)) * 127) + ((zI y11).toInt64))
noncomputable def f_L_all_L93 (S1 : yS) (dv : Int → Int) (x2 : Int64) (x4 : Int) : Option ((Int64 × Int) ⊕ (Int64 × Int)) :=
  zck (zR x4 ∧ zR (dv 2)) <|
  if (dv 2) ≤ x4 then
    some (.inr (x2, x4))
  else
    zck (zR x4) <|
    if 40 ≤ x4 then
      some (.inr (x2, x4))
    else
      zck (zR x4) <|
      zlt (y_byteAt S1 x4) fun y17 =>
      zck (y17.1 = 0) <|
      zlt (((x2 * 257) + ((zI (y17.2)).toInt64))) fun v19 =>
      some (.inl (v19, (x4 + 1)))
noncomputable def f_L_all_L62 (S1 : yS) (dv : Int → Int) (x2 : Int64) (x4 : Int) : Option ((Int64 × Int) ⊕ (Int64 × Int)) :=
  zck (zR x4 ∧ zR (dv 0)) <|
  if (dv 0) ≤ x4 then
    some (.inr (x2, x4))
  else
    zck (zR x4) <|
    zlt (y_touched S1 x4) fun y23 =>
    zck (y23.1 = 0) <|
    zlt (((x2 * 2003) + ((zI (y23.2)).toInt64))) fun v25 =>
    some (.inl (v25, (x4 + 1)))
noncomputable def f_L_all_L25 (S1 : yS) (dv : Int → Int) (x4 : Int) (x2 : Int64) (x5 : Int) : Option ((Int64 × Int) ⊕ (Int64 × Int)) :=
  zck (zR x5) <|
  if 4 ≤ x5 then
    some (.inr (x2, x5))
  else
    zck (zR x4) <|
    zck (zR x5) <|
    zlt (y_ofCommand S1 x4 x5) fun y30 =>
    zck (y30.1 = 0) <|
    zlt (((x2 * 127) + ((zI (y30.2)).toInt64))) fun v32 =>
    some (.inl (v32, (x5 + 1)))
noncomputable def f_L_all_L13 (S1 : yS) (dv : Int → Int) (x2 : Int64) (x4 : Int) : Option ((Int64 × Int) ⊕ (Int64 × Int)) :=
  zlt (y_commands S1) fun y33 =>
  zck (zR x4 ∧ zR y33) <|
  if y33 ≤ x4 then
    some (.inr (x2, x4))
  else
    zb2 (zlp (fun z => f_L_all_L25 S1 dv x4 z.1 z.2) zFU (x2, 0)) fun w37 w38 =>
    some (.inl (w37, (x4 + 1)))
noncomputable def f_L_all (S1 : yS) (dv : Int → Int) : Option (Int64) :=
  zlt (y_commands S1) fun y39 =>
  zlt ((17 + ((zI y39).toInt64))) fun v40 =>
  zb2 (zlp (fun z => f_L_all_L13 S1 dv z.1 z.2) zFU (v40, 0)) fun w42 w43 =>
  zb2 (zlp (fun z => f_L_all_L62 S1 dv z.1 z.2) zFU (w42, 0)) fun w45 w46 =>
  zb2 (zlp (fun z => f_L_all_L93 S1 dv z.1 z.2) zFU (w45, 0)) fun w48 w49 =>
  f_L_all_128 S1 dv w48
noncomputable def f_L_fields_452 (S1 : yS) (S2 : yS) (dv : Int → Int) : Option (Int × yS × yS × (Int → Int)) :=
  some (1, S1, S2, dv)
noncomputable def f_L_fields_292 (S1 : yS) (S2 : yS) (dv : Int → Int) (x4 : Int) (x6 : Int) (s0 : Int) : Option (Int × yS × yS × (Int → Int)) :=
  zb1 (f_L_some (ysr x4 3) 8) fun r1 =>
  zb1 (f_L_some (ysr x4 6) 11) fun r3 =>
  zb1 (f_L_some (ysr x4 8) 12) fun r5 =>
  zb1 (f_L_some (ysr x4 10) 4) fun r7 =>
  zb2 (f_L_sew S1 x6 (1 + r1) (2 + r3) r5 r7 s0) fun r9 s10 =>
  zck (zR r9) <|
  if r9 = 0 then
    zb1 (f_L_some (ysr x4 3) 8) fun r14 =>
    zb1 (f_L_some (ysr x4 6) 11) fun r16 =>
    zb1 (f_L_some (ysr x4 8) 12) fun r18 =>
    zb1 (f_L_some (ysr x4 10) 4) fun r20 =>
    zb2 (f_L_sew S2 x6 (1 + r14) (2 + r16) r18 r20 s0) fun r22 s23 =>
    zck (zR r22) <|
    if r22 = 0 then
      some (1, s10, s23, dv)
    else
      some (0, s10, s23, dv)
  else
    some (0, s10, S2, dv)
noncomputable def f_L_fields_239 (S1 : yS) (S2 : yS) (dv : Int → Int) (s0 : Int) (s1 : Int) : Option (Int × yS × yS × (Int → Int)) :=
  zck (zR s0 ∧ zR s1) <|
  if s0 = s1 then
    some (1, S1, S2, dv)
  else
    some (0, S1, S2, dv)
noncomputable def f_L_fields_206 (S1 : yS) (S2 : yS) (dv : Int → Int) (x6 : Int) (x7 : Int) (s1 : Int) (s2 : Int) (s3 : Int) : Option (Int × yS × yS × (Int → Int)) :=
  zck (0 ≤ s1 ∧ s1 < 26) <|
  zlt (zup dv s1 (s2 + s3)) fun a30 =>
  zck (zR x7) <|
  if x7 = (-2000000003) then
    zck (0 ≤ (6 + x6) ∧ (6 + x6) < 26) <|
    zck (0 ≤ (14 + x6) ∧ (14 + x6) < 26) <|
    zck (zR (a30 (14 + x6))) <|
    if (a30 (14 + x6)) = 1 then
      f_L_fields_239 S1 S2 a30 (a30 (6 + x6)) 4
    else
      f_L_fields_239 S1 S2 a30 (a30 (6 + x6)) 8
  else
    zck (0 ≤ (6 + x6) ∧ (6 + x6) < 26) <|
    zck (zR x7 ∧ zR (a30 (6 + x6))) <|
    if x7 = (a30 (6 + x6)) then
      some (1, S1, S2, a30)
    else
      some (0, S1, S2, a30)
noncomputable def f_L_fields_83 (S1 : yS) (S2 : yS) (dv : Int → Int) (x7 : Int) : Option (Int × yS × yS × (Int → Int)) :=
  zck (zR x7) <|
  if x7 = (-2000000003) then
    zck (zR (dv 0)) <|
    if (dv 0) = 8 then
      some (1, S1, S2, dv)
    else
      some (0, S1, S2, dv)
  else
    zck (zR x7 ∧ zR ((dv 0) - 1)) <|
    if x7 = ((dv 0) - 1) then
      zck (zR x7) <|
      zlt (y_covered S1 x7) fun y45 =>
      zck (y45.1 = 0) <|
      zck (zR (yfc (y45.2) 0)) <|
      if (yfc (y45.2) 0) = 0 then
        zck (zR x7) <|
        zlt (y_touched S1 x7) fun y50 =>
        zck (y50.1 = 0) <|
        zck (zR y50.2) <|
        if y50.2 = 0 then
          some (1, S1, S2, dv)
        else
          some (0, S1, S2, dv)
      else
        some (0, S1, S2, dv)
    else
      some (0, S1, S2, dv)
noncomputable def f_L_fields_34 (S1 : yS) (S2 : yS) (dv : Int → Int) (x4 : Int) (s0 : Int) : Option (Int × yS × yS × (Int → Int)) :=
  zb1 (f_L_some (ysr x4 2) 4) fun r56 =>
  zb1 (f_L_some (ysr x4 5) 3) fun r58 =>
  zb3 (f_L_both S1 S2 0 r56 r58 s0) fun r60 s61 s62 =>
  zck (zR r60) <|
  if r60 < 0 then
    f_L_fields_83 s61 s62 dv r60
  else
    zck (0 ≤ (14 + r60) ∧ (14 + r60) < 26) <|
    zlt (zup dv (14 + r60) s0) fun a67 =>
    zlt (zup a67 0 ((a67 0) + 1)) fun a68 =>
    f_L_fields_83 s61 s62 a68 r60
noncomputable def f_L_fields_20 (S1 : yS) (S2 : yS) (dv : Int → Int) (x4 : Int) : Option (Int × yS × yS × (Int → Int)) :=
  zb1 (f_L_some x4 4) fun r69 =>
  zck (zR r69) <|
  if r69 = 0 then
    f_L_fields_34 S1 S2 dv x4 1
  else
    f_L_fields_34 S1 S2 dv x4 0
noncomputable def f_L_fields (S1 : yS) (S2 : yS) (dv : Int → Int) (p3 : Int) (p4 : Int) : Option (Int × yS × yS × (Int → Int)) :=
  zb1 (f_L_some p3 16) fun r73 =>
  zck (zR r73) <|
  if r73 < 2 then
    f_L_fields_20 S1 S2 dv p4
  else
    zck (zR (dv 0)) <|
    if (dv 0) = 0 then
      f_L_fields_20 S1 S2 dv p4
    else
      zb1 (f_L_some p4 (dv 0)) fun r79 =>
      zck (zR r73) <|
      if 11 ≤ r73 then
        zck (zR r73) <|
        if 14 ≤ r73 then
          zck (zR r73) <|
          if 15 ≤ r73 then
            zlt ((dv 1)) fun v87 =>
            zb1 (f_L_some p4 101) fun r88 =>
            zlt (zup dv 1 r88) fun a90 =>
            zb3 (f_L_both S1 S2 3 (a90 1) 0 0) fun r91 s92 s93 =>
            zck (zR r91 ∧ zR v87) <|
            if r91 = v87 then
              some (1, s92, s93, a90)
            else
              some (0, s92, s93, a90)
          else
            zb1 (f_L_some (ysr p4 4) 110) fun r97 =>
            zb3 (f_L_both S1 S2 2 r79 (40 + r97) 0) fun r99 s100 s101 =>
            zck (zR r99) <|
            if r99 = 0 then
              f_L_fields_452 s100 s101 dv
            else
              zck (zR r99) <|
              if r99 = (-2000000003) then
                f_L_fields_452 s100 s101 dv
              else
                some (0, s100, s101, dv)
        else
          zb1 (f_L_some (ysr p4 14) 2) fun r107 =>
          zck (zR r107) <|
          if r107 = 0 then
            f_L_fields_292 S1 S2 dv p4 r79 1
          else
            f_L_fields_292 S1 S2 dv p4 r79 0
      else
        zb1 (f_L_some (ysr p4 3) 20) fun r111 =>
        zb1 (f_L_some (ysr p4 7) 14) fun r113 =>
        zb3 (f_L_both S1 S2 1 r79 r111 r113) fun r115 s116 s117 =>
        zck (0 ≤ (6 + r79) ∧ (6 + r79) < 26) <|
        zck (zR r115) <|
        if r115 < 0 then
          f_L_fields_206 s116 s117 dv r79 r115 (6 + r79) (dv (6 + r79)) 0
        else
          f_L_fields_206 s116 s117 dv r79 r115 (6 + r79) (dv (6 + r79)) 1
noncomputable def f_L_sound_280 (S1 : yS) (dv : Int → Int) (x5 : Int) (x6 : Int) : Option (Int) :=
  zck (zR x6) <|
  if x6 = 0 then
    some 0
  else
    zlt (y_count S1 0) fun y3 =>
    zck (y3.1 = 0) <|
    zck (zR y3.2 ∧ zR x5) <|
    if y3.2 = x5 then
      zlt (y_count S1 4) fun y7 =>
      zck (y7.1 = 0) <|
      zck (zR y7.2) <|
      if y7.2 = 1 then
        zlt (y_time S1) fun y11 =>
        zck (zR (yfc y11 0)) <|
        if (yfc y11 0) < 0 then
          some 0
        else
          some 1
      else
        some 0
    else
      some 0
noncomputable def f_L_sound_L39_267 (S1 : yS) (dv : Int → Int) (x2 : Int) (x3 : Int) (x4 : Int) (x5 : Int) (x7 : Int) : Option ((Int × Int × Int × Int × Int) ⊕ (Int × Int × Int × Int × Int)) :=
  some (.inl (x3, x4, x5, 1, (x7 + 1)))
noncomputable def f_L_sound_L39_253 (S1 : yS) (dv : Int → Int) (x2 : Int) (x3 : Int) (x4 : Int) (x5 : Int) (x7 : Int) (x8 : Int) : Option ((Int × Int × Int × Int × Int) ⊕ (Int × Int × Int × Int × Int)) :=
  zck (zR x8) <|
  if x8 = 4 then
    zck (zR x7 ∧ zR (x2 - 1)) <|
    if x7 = (x2 - 1) then
      f_L_sound_L39_267 S1 dv x2 x3 x4 x5 x7
    else
      some (.inl (x3, x4, x5, 0, (x7 + 1)))
  else
    f_L_sound_L39_267 S1 dv x2 x3 x4 x5 x7
noncomputable def f_L_sound_L39_234 (S1 : yS) (dv : Int → Int) (x2 : Int) (x3 : Int) (x4 : Int) (x5 : Int) (x7 : Int) (x8 : Int) : Option ((Int × Int × Int × Int × Int) ⊕ (Int × Int × Int × Int × Int)) :=
  zck (zR x8) <|
  if x8 = 2 then
    zck (zR (x7 + 1)) <|
    zlt (y_ofCommand S1 (x7 + 1) 0) fun y21 =>
    zck (y21.1 = 0) <|
    zck (zR y21.2) <|
    if y21.2 = 1 then
      f_L_sound_L39_253 S1 dv x2 x3 x4 x5 x7 x8
    else
      some (.inl (x3, x4, x5, 0, (x7 + 1)))
  else
    f_L_sound_L39_253 S1 dv x2 x3 x4 x5 x7 x8
noncomputable def f_L_sound_L39_202 (S1 : yS) (dv : Int → Int) (x2 : Int) (x3 : Int) (x4 : Int) (x5 : Int) (x7 : Int) (x8 : Int) (x9 : Int) (x10 : Int) (s0 : Int) : Option ((Int × Int × Int × Int × Int) ⊕ (Int × Int × Int × Int × Int)) :=
  zck (zR s0) <|
  if s0 = 0 then
    some (.inl (x3, x4, x5, 0, (x7 + 1)))
  else
    zck (zR x8) <|
    if x8 = 0 then
      zb1 (f_L_size x9) fun r29 =>
      zck (zR r29) <|
      if 13 ≤ r29 then
        some (.inl (x3, x4, x5, 0, (x7 + 1)))
      else
        zb1 (f_L_size x10) fun r33 =>
        zck (zR r33) <|
        if 13 ≤ r33 then
          some (.inl (x3, x4, x5, 0, (x7 + 1)))
        else
          f_L_sound_L39_234 S1 dv x2 x3 x4 x5 x7 x8
    else
      f_L_sound_L39_234 S1 dv x2 x3 x4 x5 x7 x8
noncomputable def f_L_sound_L39_201 (S1 : yS) (dv : Int → Int) (x2 : Int) (x3 : Int) (x4 : Int) (x5 : Int) (x7 : Int) (x8 : Int) (x9 : Int) (x10 : Int) : Option ((Int × Int × Int × Int × Int) ⊕ (Int × Int × Int × Int × Int)) :=
  f_L_sound_L39_202 S1 dv x2 x3 x4 x5 x7 x8 x9 x10 0
noncomputable def f_L_sound_L39_182 (S1 : yS) (dv : Int → Int) (x2 : Int) (x3 : Int) (x4 : Int) (x5 : Int) (x7 : Int) (x8 : Int) (x9 : Int) (x10 : Int) : Option ((Int × Int × Int × Int × Int) ⊕ (Int × Int × Int × Int × Int)) :=
  f_L_sound_L39_202 S1 dv x2 x3 x4 x5 x7 x8 x9 x10 0
noncomputable def f_L_sound_L39_128 (S1 : yS) (dv : Int → Int) (x2 : Int) (x3 : Int) (x4 : Int) (x5 : Int) (x7 : Int) (x8 : Int) (x9 : Int) (x10 : Int) (x11 : Int) (s0 : Int) : Option ((Int × Int × Int × Int × Int) ⊕ (Int × Int × Int × Int × Int)) :=
  zck (zR x8) <|
  if 2 ≤ x8 then
    zck (zR s0) <|
    if s0 = 0 then
      zck (zR x11) <|
      if x11 = (-1) then
        f_L_sound_L39_202 S1 dv x2 x3 x4 x5 x7 x8 x9 x10 1
      else
        f_L_sound_L39_201 S1 dv x2 x3 x4 x5 x7 x8 x9 x10
    else
      f_L_sound_L39_201 S1 dv x2 x3 x4 x5 x7 x8 x9 x10
  else
    zck (zR s0) <|
    if s0 = 0 then
      f_L_sound_L39_182 S1 dv x2 x3 x4 x5 x7 x8 x9 x10
    else
      zck (zR x11) <|
      if x11 < 0 then
        f_L_sound_L39_182 S1 dv x2 x3 x4 x5 x7 x8 x9 x10
      else
        zck (zR x11 ∧ zR (dv 0)) <|
        if (dv 0) ≤ x11 then
          f_L_sound_L39_182 S1 dv x2 x3 x4 x5 x7 x8 x9 x10
        else
          zck (zR x3) <|
          if x3 ≤ (-4) then
            f_L_sound_L39_182 S1 dv x2 x3 x4 x5 x7 x8 x9 x10
          else
            zck (zR x3) <|
            if 36 ≤ x3 then
              f_L_sound_L39_182 S1 dv x2 x3 x4 x5 x7 x8 x9 x10
            else
              zck (zR x4) <|
              if x4 < 0 then
                f_L_sound_L39_182 S1 dv x2 x3 x4 x5 x7 x8 x9 x10
              else
                zck (zR x4) <|
                if 32 ≤ x4 then
                  f_L_sound_L39_182 S1 dv x2 x3 x4 x5 x7 x8 x9 x10
                else
                  f_L_sound_L39_202 S1 dv x2 x3 x4 x5 x7 x8 x9 x10 1
noncomputable def f_L_sound_L39_123 (S1 : yS) (dv : Int → Int) (x2 : Int) (x3 : Int) (x4 : Int) (x5 : Int) (x7 : Int) (x8 : Int) (x9 : Int) (x10 : Int) (x11 : Int) : Option ((Int × Int × Int × Int × Int) ⊕ (Int × Int × Int × Int × Int)) :=
  f_L_sound_L39_128 S1 dv x2 x3 x4 x5 x7 x8 x9 x10 x11 1
noncomputable def f_L_sound_L39_110 (S1 : yS) (dv : Int → Int) (x2 : Int) (x3 : Int) (x4 : Int) (x7 : Int) (x8 : Int) (x9 : Int) (x10 : Int) (x11 : Int) (s0 : Int) (s1 : Int) : Option ((Int × Int × Int × Int × Int) ⊕ (Int × Int × Int × Int × Int)) :=
  zlt ((s0 + s1)) fun v57 =>
  zck (zR x9) <|
  if x9 = 0 then
    zck (zR x10) <|
    if x10 = 0 then
      f_L_sound_L39_128 S1 dv x2 x3 x4 v57 x7 x8 x9 x10 x11 0
    else
      f_L_sound_L39_123 S1 dv x2 x3 x4 v57 x7 x8 x9 x10 x11
  else
    f_L_sound_L39_123 S1 dv x2 x3 x4 v57 x7 x8 x9 x10 x11
noncomputable def f_L_sound_L39 (S1 : yS) (dv : Int → Int) (x2 : Int) (x3 : Int) (x4 : Int) (x5 : Int) (x6 : Int) (x7 : Int) : Option ((Int × Int × Int × Int × Int) ⊕ (Int × Int × Int × Int × Int)) :=
  zck (zR x7 ∧ zR x2) <|
  if x2 ≤ x7 then
    some (.inr (x3, x4, x5, x6, x7))
  else
    zck (zR x6) <|
    if x6 = 0 then
      some (.inr (x3, x4, x5, x6, x7))
    else
      zck (zR x7) <|
      zlt (y_ofCommand S1 x7 0) fun y67 =>
      zck (y67.1 = 0) <|
      zlt (y67.2) fun v69 =>
      zck (zR x7) <|
      zlt (y_ofCommand S1 x7 1) fun y71 =>
      zck (y71.1 = 0) <|
      zlt (y71.2) fun v73 =>
      zck (zR x7) <|
      zlt (y_ofCommand S1 x7 2) fun y75 =>
      zck (y75.1 = 0) <|
      zlt (y75.2) fun v77 =>
      zck (zR x7) <|
      zlt (y_ofCommand S1 x7 3) fun y79 =>
      zck (y79.1 = 0) <|
      zlt (y79.2) fun v81 =>
      zlt ((x3 + v73)) fun v82 =>
      zlt ((x4 + v77)) fun v83 =>
      zck (zR v69) <|
      if v69 = 0 then
        f_L_sound_L39_110 S1 dv x2 v82 v83 x7 v69 v73 v77 v81 x5 1
      else
        f_L_sound_L39_110 S1 dv x2 v82 v83 x7 v69 v73 v77 v81 x5 0
noncomputable def f_L_sound_34 (S1 : yS) (dv : Int → Int) (x2 : Int) (x3 : Int) (x4 : Int) (x5 : Int) (s0 : Int) : Option (Int) :=
  zb5 (zlp (fun z => f_L_sound_L39 S1 dv x2 z.1 z.2.1 z.2.2.1 z.2.2.2.1 z.2.2.2.2) zFU (x3, x4, x5, s0, 0)) fun w87 w88 w89 w90 w91 =>
  f_L_sound_280 S1 dv w89 w90
noncomputable def f_L_sound_33 (S1 : yS) (dv : Int → Int) (x2 : Int) (x3 : Int) (x4 : Int) (x5 : Int) : Option (Int) :=
  f_L_sound_34 S1 dv x2 x3 x4 x5 0
noncomputable def f_L_sound (S1 : yS) (dv : Int → Int) : Option (Int) :=
  zlt (y_commands S1) fun y92 =>
  zck (zR y92) <|
  if y92 ≤ 0 then
    f_L_sound_33 S1 dv y92 0 0 0
  else
    zck (zR (y92 - 1)) <|
    zlt (y_ofCommand S1 (y92 - 1) 0) fun y96 =>
    zck (y96.1 = 0) <|
    zck (zR y96.2) <|
    if y96.2 = 4 then
      f_L_sound_34 S1 dv y92 0 0 0 1
    else
      f_L_sound_33 S1 dv y92 0 0 0
noncomputable def f_L_files_309 (S1 : yS) (S2 : yS) (dv : Int → Int) (x6 : Int) (s0 : Int) : Option (Int × yS × yS × (Int → Int)) :=
  zlt (zup dv 2 x6) fun a1 =>
  zck (s0 = 0 ∨ s0 = 1) <|
  some (s0, S1, S2, a1)
noncomputable def f_L_files_308 (S1 : yS) (S2 : yS) (dv : Int → Int) (x6 : Int) : Option (Int × yS × yS × (Int → Int)) :=
  f_L_files_309 S1 S2 dv x6 0
noncomputable def f_L_files_304 (S1 : yS) (S2 : yS) (dv : Int → Int) (x6 : Int) : Option (Int × yS × yS × (Int → Int)) :=
  f_L_files_309 S1 S2 dv x6 1
noncomputable def f_L_files_301 (S1 : yS) (S2 : yS) (dv : Int → Int) (x6 : Int) (s0 : Int) (s1 : Int) : Option (Int × yS × yS × (Int → Int)) :=
  zck (zR s0 ∧ zR s1) <|
  if s0 = s1 then
    f_L_files_304 S1 S2 dv x6
  else
    f_L_files_308 S1 S2 dv x6
noncomputable def f_L_files_288 (S1 : yS) (S2 : yS) (dv : Int → Int) (x6 : Int) (s0 : Int) : Option (Int × yS × yS × (Int → Int)) :=
  zlt (y_fault S1) fun y5 =>
  zck (zR y5) <|
  if y5 = (-1) then
    f_L_files_301 S1 S2 dv x6 s0 1
  else
    f_L_files_301 S1 S2 dv x6 s0 0
noncomputable def f_L_files_206 (S1 : yS) (S2 : yS) (dv : Int → Int) : Option (Int × yS × yS × (Int → Int)) :=
  zlt (y_fault S1) fun y8 =>
  zck (zR y8 ∧ zR (dv 2)) <|
  if (dv 2) < y8 then
    some (0, S1, S2, dv)
  else
    some (1, S1, S2, dv)
noncomputable def f_L_files_203 (S1 : yS) (S2 : yS) (dv : Int → Int) (s0 : Int) (s1 : Int) : Option (Int × yS × yS × (Int → Int)) :=
  zck (zR s0 ∧ zR s1) <|
  if s0 = s1 then
    f_L_files_206 S1 S2 dv
  else
    some (0, S1, S2, dv)
noncomputable def f_L_files_191 (S1 : yS) (S2 : yS) (dv : Int → Int) (x7 : Int) (x8 : Int) (s0 : Int) : Option (Int × yS × yS × (Int → Int)) :=
  zck (zR x7 ∧ zR x8) <|
  if x7 = x8 then
    f_L_files_203 S1 S2 dv s0 1
  else
    f_L_files_203 S1 S2 dv s0 0
noncomputable def f_L_files_153 (S1 : yS) (S2 : yS) (dv : Int → Int) (x6 : Int) (x7 : Int) (x8 : Int) (x10 : Int) (s0 : Int) : Option (Int × yS × yS × (Int → Int)) :=
  zck (zR x10 ∧ zR x8) <|
  if x10 = x8 then
    zck (zR x6) <|
    zlt (y_byteAt S1 x6) fun y18 =>
    zck (y18.1 = 0) <|
    zck (zR y18.2 ∧ zR x7) <|
    if y18.2 = x7 then
      zck (zR s0) <|
      if s0 = 0 then
        f_L_files_206 S1 S2 dv
      else
        zlt (y_fault S1) fun y24 =>
        zck (zR y24) <|
        if y24 = (-1) then
          f_L_files_191 S1 S2 dv x7 x8 1
        else
          f_L_files_191 S1 S2 dv x7 x8 0
    else
      some (0, S1, S2, dv)
  else
    some (0, S1, S2, dv)
noncomputable def f_L_files_20 (S1 : yS) (S2 : yS) (dv : Int → Int) (x4 : Int) : Option (Int × yS × yS × (Int → Int)) :=
  zb1 (f_L_some x4 2) fun r27 =>
  zb3 (f_L_both S1 S2 9 r27 0 0) fun r29 s30 s31 =>
  zlt (zup dv 2 r29) fun a33 =>
  zlt (y_commands s30) fun y34 =>
  zck (zR (a33 2) ∧ zR (((2 + r27) * y34) + 1)) <|
  if (a33 2) < (((2 + r27) * y34) + 1) then
    some (0, s30, s31, a33)
  else
    zlt (y_fault s30) fun y37 =>
    zck (zR y37) <|
    if y37 = (-1) then
      zlt (y_reads s30) fun y40 =>
      zlt (y_count s30 0) fun y41 =>
      zck (y41.1 = 0) <|
      zck (zR y40 ∧ zR y41.2) <|
      if y40 = y41.2 then
        some (1, s30, s31, a33)
      else
        some (0, s30, s31, a33)
    else
      some (0, s30, s31, a33)
noncomputable def f_L_files (S1 : yS) (S2 : yS) (dv : Int → Int) (p3 : Int) (p4 : Int) : Option (Int × yS × yS × (Int → Int)) :=
  zb1 (f_L_some p3 6) fun r45 =>
  zck (zR r45) <|
  if r45 < 2 then
    f_L_files_20 S1 S2 dv p4
  else
    zck (zR (dv 2)) <|
    if (dv 2) = 0 then
      f_L_files_20 S1 S2 dv p4
    else
      zck (zR r45) <|
      if 5 ≤ r45 then
        zb1 (f_L_some p4 ((dv 2) + 1)) fun r53 =>
        zlt (y_fault S1) fun y55 =>
        zb3 (f_L_both S1 S2 12 r53 0 0) fun r56 s57 s58 =>
        zck (zR r56 ∧ zR (dv 2)) <|
        if r56 = (dv 2) then
          zlt (y_fault s57) fun y62 =>
          zck (zR y62 ∧ zR r53) <|
          if r53 < y62 then
            f_L_files_308 s57 s58 dv r53
          else
            zck (zR y55) <|
            if y55 = (-1) then
              zck (zR r53 ∧ zR r56) <|
              if r53 = r56 then
                f_L_files_288 s57 s58 dv r53 1
              else
                f_L_files_288 s57 s58 dv r53 0
            else
              f_L_files_304 s57 s58 dv r53
        else
          f_L_files_308 s57 s58 dv r53
      else
        zb1 (f_L_some p4 (dv 2)) fun r69 =>
        zb1 (f_L_some (ysr p4 11) 256) fun r71 =>
        zck (zR r69) <|
        zlt (y_byteAt S1 r69) fun y74 =>
        zck (y74.1 = 0) <|
        zlt (y74.2) fun v76 =>
        zlt (y_fault S1) fun y77 =>
        zb3 (f_L_both S1 S2 11 r69 r71 0) fun r78 s79 s80 =>
        zck (zR y77) <|
        if y77 = (-1) then
          f_L_files_153 s79 s80 dv r69 r71 v76 r78 1
        else
          f_L_files_153 s79 s80 dv r69 r71 v76 r78 0
noncomputable def f_L_machine_386 (S1 : yS) (S2 : yS) (dv : Int → Int) : Option (Int × yS × yS × (Int → Int)) :=
  some (1, S1, S2, dv)
noncomputable def f_L_machine_315 (S1 : yS) (S2 : yS) (dv : Int → Int) (x6 : Int) (x7 : Int) (s0 : Int) (s1 : Int) : Option (Int × yS × yS × (Int → Int)) :=
  zck (zR s0 ∧ zR s1) <|
  if s0 = s1 then
    zck (zR x6) <|
    zlt (y_sewn S1 x6) fun y4 =>
    zck (y4.1 = 0) <|
    zck (zR y4.2 ∧ zR x7) <|
    if y4.2 = x7 then
      some (1, S1, S2, dv)
    else
      some (0, S1, S2, dv)
  else
    some (0, S1, S2, dv)
noncomputable def f_L_machine_301 (S1 : yS) (S2 : yS) (dv : Int → Int) (x6 : Int) (x7 : Int) (x8 : Int) (x9 : Int) (s1 : Int) (s2 : Int) : Option (Int × yS × yS × (Int → Int)) :=
  zck (0 ≤ s1 ∧ s1 < 26) <|
  zlt (zup dv s1 s2) fun a9 =>
  zck (zR x9) <|
  if x9 = 0 then
    f_L_machine_315 S1 S2 a9 x6 x7 x8 (-2000000003)
  else
    f_L_machine_315 S1 S2 a9 x6 x7 x8 0
noncomputable def f_L_machine_275 (S1 : yS) (S2 : yS) (dv : Int → Int) (x6 : Int) (x7 : Int) (x8 : Int) (s0 : Int) : Option (Int × yS × yS × (Int → Int)) :=
  zck (zR s0) <|
  if s0 = 0 then
    zck (0 ≤ (22 + x6) ∧ (22 + x6) < 26) <|
    f_L_machine_301 S1 S2 dv x6 x7 x8 s0 (22 + x6) (dv (22 + x6))
  else
    f_L_machine_301 S1 S2 dv x6 x7 x8 s0 (22 + x6) (dv 5)
noncomputable def f_L_machine_218 (S1 : yS) (S2 : yS) (dv : Int → Int) (x6 : Int) (x7 : Int) (s0 : Int) (s1 : Int) (s2 : Int) : Option (Int × yS × yS × (Int → Int)) :=
  zck (zR s0 ∧ zR (s1 + s2)) <|
  if (s1 + s2) < s0 then
    some (0, S1, S2, dv)
  else
    zck (zR x6) <|
    zlt (y_sewn S1 x6) fun y18 =>
    zck (y18.1 = 0) <|
    zck (zR y18.2 ∧ zR x7) <|
    if y18.2 < x7 then
      some (0, S1, S2, dv)
    else
      some (1, S1, S2, dv)
noncomputable def f_L_machine_176 (S1 : yS) (S2 : yS) (dv : Int → Int) (x6 : Int) (x7 : Int) (x8 : Int) (x9 : Int) (s0 : Int) : Option (Int × yS × yS × (Int → Int)) :=
  zck (zR x9) <|
  if x9 < 0 then
    some (0, S1, S2, dv)
  else
    zck (zR x9 ∧ zR x8) <|
    if x8 < x9 then
      some (0, S1, S2, dv)
    else
      zck (zR (dv 5) ∧ zR (dv 4)) <|
      if (dv 4) < (dv 5) then
        some (0, S1, S2, dv)
      else
        zck (zR x6) <|
        zlt (y_sewn S1 x6) fun y29 =>
        zck (y29.1 = 0) <|
        zck (zR s0) <|
        if s0 = 0 then
          f_L_machine_218 S1 S2 dv x6 x7 (y29.2) x7 0
        else
          f_L_machine_218 S1 S2 dv x6 x7 (y29.2) x7 x9
noncomputable def f_L_machine_L45 (S1 : yS) (S2 : yS) (x4 : Int) (x6 : Int) (dv : Int → Int) : Option ((Int × (Int → Int)) ⊕ (Int × (Int → Int))) :=
  zck (zR x6) <|
  if 4 ≤ x6 then
    some (.inr (x6, dv))
  else
    zck (0 ≤ (22 + x6) ∧ (22 + x6) < 26) <|
    zlt (zup dv (22 + x6) (-1)) fun a36 =>
    some (.inl ((x6 + 1), a36))
noncomputable def f_L_machine_20 (S1 : yS) (S2 : yS) (dv : Int → Int) (x4 : Int) : Option (Int × yS × yS × (Int → Int)) :=
  zb1 (f_L_some x4 4) fun r37 =>
  zlt (zup dv 3 (1 + r37)) fun a39 =>
  zlt (y_commands S1) fun y40 =>
  zlt (zup a39 4 y40) fun a41 =>
  zlt (zup a41 5 0) fun a42 =>
  zb2 (zlp (fun z => f_L_machine_L45 S1 S2 x4 z.1 z.2) zFU (0, a42)) fun w44 w45 =>
  zb1 (f_L_some (ysr x4 3) 6) fun r46 =>
  zb3 (f_L_both S1 S2 13 (w45 3) r46 0) fun r48 s49 s50 =>
  zck (zR r48) <|
  if r48 = 0 then
    zlt (y_sewn s49 0) fun y54 =>
    zck (y54.1 = 0) <|
    zck (zR y54.2) <|
    if y54.2 = 0 then
      some (1, s49, s50, w45)
    else
      some (0, s49, s50, w45)
  else
    some (0, s49, s50, w45)
noncomputable def f_L_machine (S1 : yS) (S2 : yS) (dv : Int → Int) (p3 : Int) (p4 : Int) : Option (Int × yS × yS × (Int → Int)) :=
  zb1 (f_L_some p3 8) fun r58 =>
  zck (zR r58) <|
  if r58 < 1 then
    f_L_machine_20 S1 S2 dv p4
  else
    zck (zR (dv 3)) <|
    if (dv 3) = 0 then
      f_L_machine_20 S1 S2 dv p4
    else
      zb1 (f_L_some p4 (dv 3)) fun r64 =>
      zck (zR r64) <|
      zlt (y_sewn S1 r64) fun y67 =>
      zck (y67.1 = 0) <|
      zlt (y67.2) fun v69 =>
      zck (zR r58) <|
      if 5 ≤ r58 then
        zck (zR r58) <|
        if 6 ≤ r58 then
          zb3 (f_L_both S1 S2 16 r64 0 0) fun r74 s75 s76 =>
          zck (zR r74) <|
          if r74 = (-2000000003) then
            zck (zR r64) <|
            zlt (y_sewn s75 r64) fun y99 =>
            zck (y99.1 = 0) <|
            zck (zR y99.2 ∧ zR v69) <|
            if y99.2 = v69 then
              zck (0 ≤ (22 + r64) ∧ (22 + r64) < 26) <|
              zck (zR (dv (22 + r64))) <|
              if (dv (22 + r64)) = (-1) then
                f_L_machine_386 s75 s76 dv
              else
                zck (zR (dv 5) ∧ zR (dv 4)) <|
                if (dv 4) ≤ (dv 5) then
                  some (0, s75, s76, dv)
                else
                  f_L_machine_386 s75 s76 dv
            else
              some (0, s75, s76, dv)
          else
            zck (0 ≤ (22 + r64) ∧ (22 + r64) < 26) <|
            zlt ((((dv 5) - (dv (22 + r64))) + 3)) fun v81 =>
            zck (0 ≤ (22 + r64) ∧ (22 + r64) < 26) <|
            zlt (zup dv (22 + r64) (-1)) fun a83 =>
            zck (zR r74) <|
            if r74 < 0 then
              some (0, s75, s76, a83)
            else
              zck (zR r74 ∧ zR v81) <|
              if v81 < r74 then
                some (0, s75, s76, a83)
              else
                zck (zR r64) <|
                zlt (y_sewn s75 r64) fun y89 =>
                zck (y89.1 = 0) <|
                zck (zR y89.2 ∧ zR (v69 + r74)) <|
                if y89.2 = (v69 + r74) then
                  zb2 (f_L_call s75 16 r64 0 0) fun r93 s94 =>
                  zck (zR r93) <|
                  if r93 = (-2000000003) then
                    some (1, s94, s76, a83)
                  else
                    some (0, s94, s76, a83)
                else
                  some (0, s75, s76, a83)
        else
          zb3 (f_L_both S1 S2 15 r64 0 0) fun r108 s109 s110 =>
          zck (0 ≤ (22 + r64) ∧ (22 + r64) < 26) <|
          zck (zR (dv (22 + r64))) <|
          if (dv (22 + r64)) = (-1) then
            f_L_machine_275 s109 s110 dv r64 v69 r108 1
          else
            f_L_machine_275 s109 s110 dv r64 v69 r108 0
      else
        zb1 (f_L_some (ysr p4 3) 60) fun r115 =>
        zlt ((1 + r115)) fun v117 =>
        zb3 (f_L_both S1 S2 14 v117 0 0) fun r118 s119 s120 =>
        zlt (zup dv 5 ((dv 5) + r118)) fun a122 =>
        zck (0 ≤ (22 + r64) ∧ (22 + r64) < 26) <|
        zck (zR (a122 (22 + r64))) <|
        if (a122 (22 + r64)) = (-1) then
          f_L_machine_176 s119 s120 a122 r64 v69 v117 r118 1
        else
          f_L_machine_176 s119 s120 a122 r64 v69 v117 r118 0
noncomputable def f_L_refused_238 (S1 : yS) (dv : Int → Int) (x2 : Int64) (s0 : Int) : Option (Int × yS) :=
  zck (zR s0) <|
  if s0 = 0 then
    some (0, S1)
  else
    zb2 (f_L_call S1 11 (dv 2) 0 0) fun r3 s4 =>
    zck (zR r3) <|
    if r3 = (-2000000001) then
      zb2 (f_L_call s4 12 (-1) 0 0) fun r8 s9 =>
      zck (zR r8) <|
      if r8 = (-2000000002) then
        zb2 (f_L_call s9 12 ((dv 2) + 1) 0 0) fun r13 s14 =>
        zck (zR r13) <|
        if r13 = (-2000000002) then
          zb2 (f_L_call s14 13 0 0 0) fun r18 s19 =>
          zck (zR r18) <|
          if r18 = (-2000000002) then
            zb2 (f_L_call s19 13 1 21 0) fun r23 s24 =>
            zck (zR r23) <|
            if r23 = (-2000000002) then
              zb2 (f_L_call s24 14 0 0 0) fun r28 s29 =>
              zck (zR r28) <|
              if r28 = (-2000000002) then
                zb2 (f_L_call s29 15 4 0 0) fun r33 s34 =>
                zck (zR r33) <|
                if r33 = (-2000000001) then
                  zb2 (f_L_call s34 16 (-1) 0 0) fun r38 s39 =>
                  zck (zR r38) <|
                  if r38 = (-2000000001) then
                    zb2 (f_L_call s39 17 4 0 0) fun r43 s44 =>
                    zck (zR r43) <|
                    if r43 = (-2000000001) then
                      zb1 (f_L_all s44 dv) fun r48 =>
                      zck (zR (ylc r48 x2)) <|
                      if (ylc r48 x2) = 0 then
                        some (1, s44)
                      else
                        some (0, s44)
                    else
                      some (0, s44)
                  else
                    some (0, s39)
                else
                  some (0, s34)
              else
                some (0, s29)
            else
              some (0, s24)
          else
            some (0, s19)
        else
          some (0, s14)
      else
        some (0, s9)
    else
      some (0, s4)
noncomputable def f_L_refused_237 (S1 : yS) (dv : Int → Int) (x2 : Int64) : Option (Int × yS) :=
  f_L_refused_238 S1 dv x2 0
noncomputable def f_L_refused (S1 : yS) (dv : Int → Int) : Option (Int × yS) :=
  zb1 (f_L_all S1 dv) fun r52 =>
  zb2 (f_L_call S1 0 (-1) 0 0) fun r54 s55 =>
  zck (zR r54) <|
  if r54 = (-2000000002) then
    zb2 (f_L_call s55 0 0 4 0) fun r59 s60 =>
    zck (zR r59) <|
    if r59 = (-2000000002) then
      zb2 (f_L_call s60 1 8 0 0) fun r64 s65 =>
      zck (zR r64) <|
      if r64 = (-2000000001) then
        zb2 (f_L_call s65 1 (-1) 0 0) fun r69 s70 =>
        zck (zR r69) <|
        if r69 = (-2000000001) then
          zb2 (f_L_sew s70 8 1 1 0 0 0) fun r74 s75 =>
          zck (zR r74) <|
          if r74 = (-2000000001) then
            zb2 (f_L_call s75 2 8 100 0) fun r79 s80 =>
            zck (zR r79) <|
            if r79 = (-2000000001) then
              zb2 (f_L_call s80 3 (-1) 0 0) fun r84 s85 =>
              zck (zR r84) <|
              if r84 = (-2000000002) then
                zlt (y_commands s85) fun y89 =>
                zb2 (f_L_call s85 4 y89 0 0) fun r90 s91 =>
                zck (zR r90) <|
                if r90 = (-2000000001) then
                  zb2 (f_L_call s91 4 0 (-1) 0) fun r95 s96 =>
                  zck (zR r95) <|
                  if r95 = (-2000000002) then
                    zb2 (f_L_call s96 5 (-1) 0 0) fun r100 s101 =>
                    zck (zR r100) <|
                    if r100 = (-2000000002) then
                      zb2 (f_L_call s101 6 6 0 0) fun r105 s106 =>
                      zck (zR r105) <|
                      if r105 = (-2000000002) then
                        zb2 (f_L_call s106 7 8 0 0) fun r110 s111 =>
                        zck (zR r110) <|
                        if r110 = (-2000000001) then
                          zb2 (f_L_call s111 8 (-1) 0 0) fun r115 s116 =>
                          zck (zR r115) <|
                          if r115 = (-2000000001) then
                            zb2 (f_L_call s116 9 (-1) 0 0) fun r120 s121 =>
                            zck (zR r120) <|
                            if r120 = (-2000000002) then
                              zb2 (f_L_call s121 10 (-1) 0 0) fun r125 s126 =>
                              zck (zR r125) <|
                              if r125 = (-2000000001) then
                                zb2 (f_L_call s126 10 (dv 2) 0 0) fun r130 s131 =>
                                zck (zR r130) <|
                                if r130 = (-2000000001) then
                                  f_L_refused_238 s131 dv r52 1
                                else
                                  f_L_refused_237 s131 dv r52
                              else
                                f_L_refused_237 s126 dv r52
                            else
                              f_L_refused_237 s121 dv r52
                          else
                            f_L_refused_237 s116 dv r52
                        else
                          f_L_refused_237 s111 dv r52
                      else
                        f_L_refused_237 s106 dv r52
                    else
                      f_L_refused_237 s101 dv r52
                  else
                    f_L_refused_237 s96 dv r52
                else
                  f_L_refused_237 s91 dv r52
              else
                f_L_refused_237 s85 dv r52
            else
              f_L_refused_237 s80 dv r52
          else
            f_L_refused_237 s75 dv r52
        else
          f_L_refused_237 s70 dv r52
      else
        f_L_refused_237 s65 dv r52
    else
      f_L_refused_237 s60 dv r52
  else
    f_L_refused_237 s55 dv r52
