def f_X6_isWithin (p0 : Int) (p1 : Int) (p2 : Int) : Option (Int) :=
  zck (zR p0 ∧ zR p1) <|
  if p0 < p1 then
    some 0
  else
    zck (zR p0 ∧ zR p2) <|
    if p2 < p0 then
      some 0
    else
      some 1
def f_X6_placeOf (p0 : Int) (p1 : Int) (p2 : Int) (p3 : Int) : Option (Int) :=
  zck (zR p3) <|
  if 0 < p3 then
    zb1 (f_J9_floorDiv_7cf53 ((p1 - p0) * p2) p3) fun r3 =>
    some (p0 + r3)
  else
    some p0
def f_X6_roundedUp (p0 : Int) (p1 : Int) : Option (Int) :=
  zck (zR p1) <|
  if 0 < p1 then
    zck ((zR ((p0 + p1) - 1) ∧ zR p1) ∧ p1 ≠ 0) <|
    some (Int.tdiv ((p0 + p1) - 1) p1)
  else
    some 0
def f_X6_greaterDifference (p0 : Int) (p1 : Int) : Option (Int) :=
  zck (zR p0) <|
  zck (zR p1) <|
  zck (zR (p0.natAbs : Int) ∧ zR (p1.natAbs : Int)) <|
  some (max (p0.natAbs : Int) (p1.natAbs : Int))
def f_X6_wholeRoot_L6 (x0 : Int) (x1 : Int) (x2 : Int) : Option ((Int × Int) ⊕ (Int × Int)) :=
  zck (zR x2) <|
  if x2 ≤ 0 then
    some (.inr (x1, x2))
  else
    zlt ((x1 + x2)) fun v3 =>
    zck (zR (v3 * v3) ∧ zR x0) <|
    if x0 < (v3 * v3) then
      zck (0 ≤ x2 ∧ zR x2) <|
      zlt ((x2 / 2)) fun v7 =>
      some (.inl (x1, v7))
    else
      zck (0 ≤ x2 ∧ zR x2) <|
      zlt ((x2 / 2)) fun v9 =>
      some (.inl (v3, v9))
def f_X6_wholeRoot (p0 : Int) : Option (Int) :=
  zb2 (zlp (fun z => f_X6_wholeRoot_L6 p0 z.1 z.2) zFU (0, 128)) fun w11 w12 =>
  some w11
def f_X4_put (pt_xs : Int → Int) (pt_ys : Int → Int) (pt_size : Int) (p1 : Int) (p2 : Int) : Option ((Int → Int) × (Int → Int) × Int) :=
  zck (zR pt_size) <|
  if 2078 ≤ pt_size then
    some (pt_xs, pt_ys, pt_size)
  else
    zck (zR pt_size) <|
    if 2078 ≤ pt_size then
      some (pt_xs, pt_ys, pt_size)
    else
      zck (0 ≤ pt_size ∧ pt_size < 2078) <|
      zlt (zup pt_xs pt_size p1) fun a7 =>
      zck (0 ≤ pt_size ∧ pt_size < 2078) <|
      zlt (zup pt_ys pt_size p2) fun a10 =>
      zlt ((pt_size + 1)) fun v11 =>
      some (a7, a10, v11)
def f_X4_firstX (pt_xs : Int → Int) (pt_size : Int) : Option (Int) :=
  zck (zR pt_size) <|
  if pt_size ≤ 0 then
    some 0
  else
    some (pt_xs 0)
def f_X0_leastY_L5 (fd_cornerYs : Int → Int) (fd_cornerCount : Int) (x1 : Int) (x2 : Int) : Option ((Int × Int) ⊕ (Int × Int)) :=
  zck (zR x2 ∧ zR fd_cornerCount) <|
  if fd_cornerCount ≤ x2 then
    some (.inr (x1, x2))
  else
    zck (zR x2) <|
    if 8 ≤ x2 then
      some (.inr (x1, x2))
    else
      zck (0 ≤ x2 ∧ x2 < 8) <|
      zck (zR x1 ∧ zR (fd_cornerYs x2)) <|
      zlt ((min x1 (fd_cornerYs x2))) fun v7 =>
      some (.inl (v7, (x2 + 1)))
def f_X0_leastY (fd_cornerYs : Int → Int) (fd_cornerCount : Int) : Option (Int) :=
  zb2 (zlp (fun z => f_X0_leastY_L5 fd_cornerYs fd_cornerCount z.1 z.2) zFU (32, 0)) fun w9 w10 =>
  some w9
def f_X0_canResize_L2 (fd_cornerXs : Int → Int) (fd_cornerYs : Int → Int) (fd_cornerCount : Int) (x1 : Int) (x2 : Int) : Option ((Int) ⊕ ((Int) ⊕ (Int))) :=
  zck (zR x2 ∧ zR fd_cornerCount) <|
  if fd_cornerCount ≤ x2 then
    some (.inr (.inl x2))
  else
    zck (zR x2) <|
    if 8 ≤ x2 then
      some (.inr (.inl x2))
    else
      zck (zR x2) <|
      if 8 ≤ x2 then
        some (.inr (.inl x2))
      else
        zck (0 ≤ x2 ∧ x2 < 8) <|
        zck (0 ≤ x2 ∧ x2 < 8) <|
        zck (zR (fd_cornerXs x2) ∧ zR (fd_cornerYs x2)) <|
        zlt ((max (fd_cornerXs x2) (fd_cornerYs x2))) fun v10 =>
        zck (zR (v10 * x1)) <|
        zck (zR (Int.tdiv (v10 * x1) 100)) <|
        if (Int.tdiv (v10 * x1) 100) < 32 then
          some (.inl (x2 + 1))
        else
          some (.inr (.inr 0))
def f_X0_canResize (fd_cornerXs : Int → Int) (fd_cornerYs : Int → Int) (fd_cornerCount : Int) (p1 : Int) : Option (Int) :=
  zbs (zlp (fun z => f_X0_canResize_L2 fd_cornerXs fd_cornerYs fd_cornerCount p1 z) zFU 0) (fun w15 =>
    some 1
  ) (fun b => some b)
abbrev rmX6_isWithin : Room := { frames := 0, cells := 0, slots := 0, locals := 0 }
theorem hd_X6_isWithin : yX6_isWithin.cls ≠ "java/lang/invoke/MethodHandle" ∧ yX6_isWithin.cls ≠ "java/lang/invoke/VarHandle" ∧ (parseMethodDescriptor yX6_isWithin.desc).map (fun d => d.parameters.length) = some 3 := by decide +kernel
set_option maxHeartbeats 4000000 in
set_option maxRecDepth 100000 in
theorem c_X6_isWithin {l : Launch} {D : va_G} {cI cZ cF cL cD : ClassId} {ad : Nat → Nat} {N : Nat} (hI : ∀ i j, i < N → j < N → ad i = ad j → i = j) (hN : 46 ≤ N) {σ0 : Nat → va_E} {sz : Nat} {p0 : Int} {p1 : Int} {p2 : Int} {R0 : Int}  (hf : f_X6_isWithin p0 p1 p2 = some R0) :
    Met l yX6_isWithin (Cond.code yX6_isWithin cX6_isWithin 3 (some .boolean) :: wsL_law) rmX6_isWithin (zPre D ad N (zT cI cZ cF cL cD) σ0 sz [.int (zI p0), .int (zI p1), .int (zI p2)]) (zQi D ad N sz (fun r σ' => r = zI R0 ∧ σ' = σ0)) 0 0 (zFr ad N sz) := by
  refine zMet hI (plainFor_of_name (by decide)) (Nat.le_of_ble_eq_true rfl) ⟨rfl, rfl⟩ ?_
  intro p e s m args below meth c Q hx hb hr hlocks hml hown hts hK hsz hQ hH hA ls hl
  subst hsz
  have hl : lv_has ls 3 [(0, .int (zI p0)), (1, .int (zI p1)), (2, .int (zI p2))] := hl
  have hbg : σ0 = σ0 := rfl
  unfold f_X6_isWithin at hf
  refine lv_iload_n hx hb dX6_isWithin_0 rfl (lv_at hl 0 rfl) ?_
  refine lv_iload_n hx hb dX6_isWithin_1 rfl (lv_at hl 1 rfl) ?_
  obtain ⟨k1, hf⟩ := zck_some hf
  refine lz_icmp_lt (tgt := 14) hx hb k1 dX6_isWithin_2 (by decide) (fun c2 => ?_) (fun c2 => ?_)
  · replace hf := (if_pos c2).symm.trans hf
    refine lv_iconst (v := zI 0) hx hb dX6_isWithin_14 (by decide +kernel) ?_
    cases hf
    exact zretz hx hb hr hlocks hQ hH ⟨rfl, hbg⟩ (z_nar _ (Or.inl rfl)) dX6_isWithin_15
  · replace hf := (if_neg c2).symm.trans hf
    refine lv_iload_n hx hb dX6_isWithin_5 rfl (lv_at hl 0 rfl) ?_
    refine lv_iload_n hx hb dX6_isWithin_6 rfl (lv_at hl 2 rfl) ?_
    obtain ⟨k3, hf⟩ := zck_some hf
    refine lz_icmp_gt (tgt := 14) hx hb k3 dX6_isWithin_7 (by decide) (fun c4 => ?_) (fun c4 => ?_)
    · replace hf := (if_pos c4).symm.trans hf
      refine lv_iconst (v := zI 0) hx hb dX6_isWithin_14 (by decide +kernel) ?_
      cases hf
      exact zretz hx hb hr hlocks hQ hH ⟨rfl, hbg⟩ (z_nar _ (Or.inl rfl)) dX6_isWithin_15
    · replace hf := (if_neg c4).symm.trans hf
      refine lv_iconst (v := zI 1) hx hb dX6_isWithin_10 (by decide +kernel) ?_
      refine lv_goto (tgt := 15) hx hb dX6_isWithin_11 (by decide) ?_
      cases hf
      exact zretz hx hb hr hlocks hQ hH ⟨rfl, hbg⟩ (z_nar _ (Or.inr rfl)) dX6_isWithin_15
abbrev rmX6_placeOf : Room := { frames := 1, cells := 0, slots := 0, locals := 22 }
theorem hd_X6_placeOf : yX6_placeOf.cls ≠ "java/lang/invoke/MethodHandle" ∧ yX6_placeOf.cls ≠ "java/lang/invoke/VarHandle" ∧ (parseMethodDescriptor yX6_placeOf.desc).map (fun d => d.parameters.length) = some 4 := by decide +kernel
set_option maxHeartbeats 4000000 in
set_option maxRecDepth 100000 in
theorem c_X6_placeOf {l : Launch} {D : va_G} {cI cZ cF cL cD : ClassId} {ad : Nat → Nat} {N : Nat} (hI : ∀ i j, i < N → j < N → ad i = ad j → i = j) (hN : 46 ≤ N) {σ0 : Nat → va_E} {sz : Nat} {p0 : Int} {p1 : Int} {p2 : Int} {p3 : Int} {R0 : Int}  (hf : f_X6_placeOf p0 p1 p2 p3 = some R0) :
    Met l yX6_placeOf (Cond.code yX6_placeOf cX6_placeOf 4 (some .int) :: wsL_law) rmX6_placeOf (zPre D ad N (zT cI cZ cF cL cD) σ0 sz [.int (zI p0), .int (zI p1), .int (zI p2), .int (zI p3)]) (zQi D ad N sz (fun r σ' => r = zI R0 ∧ σ' = σ0)) 0 0 (zFr ad N sz) := by
  refine zMet hI (plainFor_of_name (by decide)) (Nat.le_of_ble_eq_true rfl) ⟨rfl, rfl⟩ ?_
  intro p e s m args below meth c Q hx hb hr hlocks hml hown hts hK hsz hQ hH hA ls hl
  subst hsz
  have hl : lv_has ls 4 [(0, .int (zI p0)), (1, .int (zI p1)), (2, .int (zI p2)), (3, .int (zI p3))] := hl
  have hbg : σ0 = σ0 := rfl
  unfold f_X6_placeOf at hf
  refine lv_iload_n hx hb dX6_placeOf_0 rfl (lv_at hl 3 rfl) ?_
  obtain ⟨k1, hf⟩ := zck_some hf
  refine lz_if_gt (tgt := 8) hx hb k1 dX6_placeOf_1 (by decide) (fun c2 => ?_) (fun c2 => ?_)
  · replace hf := (if_pos c2).symm.trans hf
    refine lv_iload_n hx hb dX6_placeOf_8 rfl (lv_at hl 0 rfl) ?_
    refine lv_iload_n hx hb dX6_placeOf_9 rfl (lv_at hl 1 rfl) ?_
    refine lv_iload_n hx hb dX6_placeOf_10 rfl (lv_at hl 0 rfl) ?_
    refine lz_isub hx hb dX6_placeOf_11 ?_
    refine lv_iload_n hx hb dX6_placeOf_12 rfl (lv_at hl 2 rfl) ?_
    refine lz_imul hx hb dX6_placeOf_13 ?_
    refine lv_iload_n hx hb dX6_placeOf_14 rfl (lv_at hl 3 rfl) ?_
    obtain ⟨r3, k4, hf⟩ := zb1_some hf
    refine zcSi (As := [.int (zI ((p1 - p0) * p2)), .int (zI p3)]) (rest := [.int (zI p0)]) hx hb hml hown hts hl.1 hK hH hA (c_J9_floorDiv_7cf53 hI hN   k4) zk_t1_208 zk_t1_209 zk_t1_15 zk_t1_210 hd_J9_floorDiv_7cf53 rfl ⟨rfl, rfl, Nat.le_of_ble_eq_true rfl, Nat.le_of_ble_eq_true rfl⟩ ⟨Nat.zero_le _, Nat.zero_le _⟩ rfl (Nat.le_of_ble_eq_true rfl) dX6_placeOf_15 (fun q6 σ5 Hσ5 lσ5 hp hH => ?_)
    obtain ⟨hr1, hs1⟩ := hp; subst hr1; rw [hs1] at hH
    refine lz_iadd hx hb dX6_placeOf_18 ?_
    cases hf
    exact zreti hx hb hr hlocks hQ hH ⟨rfl, hbg⟩ dX6_placeOf_19
  · replace hf := (if_neg c2).symm.trans hf
    refine lv_iload_n hx hb dX6_placeOf_4 rfl (lv_at hl 0 rfl) ?_
    refine lv_goto (tgt := 19) hx hb dX6_placeOf_5 (by decide) ?_
    cases hf
    exact zreti hx hb hr hlocks hQ hH ⟨rfl, hbg⟩ dX6_placeOf_19
abbrev rmX6_roundedUp : Room := { frames := 0, cells := 0, slots := 0, locals := 0 }
theorem hd_X6_roundedUp : yX6_roundedUp.cls ≠ "java/lang/invoke/MethodHandle" ∧ yX6_roundedUp.cls ≠ "java/lang/invoke/VarHandle" ∧ (parseMethodDescriptor yX6_roundedUp.desc).map (fun d => d.parameters.length) = some 2 := by decide +kernel
set_option maxHeartbeats 4000000 in
set_option maxRecDepth 100000 in
theorem c_X6_roundedUp {l : Launch} {D : va_G} {cI cZ cF cL cD : ClassId} {ad : Nat → Nat} {N : Nat} (hI : ∀ i j, i < N → j < N → ad i = ad j → i = j) (hN : 46 ≤ N) {σ0 : Nat → va_E} {sz : Nat} {p0 : Int} {p1 : Int} {R0 : Int}  (hf : f_X6_roundedUp p0 p1 = some R0) :
    Met l yX6_roundedUp (Cond.code yX6_roundedUp cX6_roundedUp 2 (some .int) :: wsL_law) rmX6_roundedUp (zPre D ad N (zT cI cZ cF cL cD) σ0 sz [.int (zI p0), .int (zI p1)]) (zQi D ad N sz (fun r σ' => r = zI R0 ∧ σ' = σ0)) 0 0 (zFr ad N sz) := by
  refine zMet hI (plainFor_of_name (by decide)) (Nat.le_of_ble_eq_true rfl) ⟨rfl, rfl⟩ ?_
  intro p e s m args below meth c Q hx hb hr hlocks hml hown hts hK hsz hQ hH hA ls hl
  subst hsz
  have hl : lv_has ls 2 [(0, .int (zI p0)), (1, .int (zI p1))] := hl
  have hbg : σ0 = σ0 := rfl
  unfold f_X6_roundedUp at hf
  refine lv_iload_n hx hb dX6_roundedUp_0 rfl (lv_at hl 1 rfl) ?_
  obtain ⟨k1, hf⟩ := zck_some hf
  refine lz_if_gt (tgt := 8) hx hb k1 dX6_roundedUp_1 (by decide) (fun c2 => ?_) (fun c2 => ?_)
  · replace hf := (if_pos c2).symm.trans hf
    refine lv_iload_n hx hb dX6_roundedUp_8 rfl (lv_at hl 0 rfl) ?_
    refine lv_iload_n hx hb dX6_roundedUp_9 rfl (lv_at hl 1 rfl) ?_
    refine lz_iadd hx hb dX6_roundedUp_10 ?_
    refine lv_iconst (v := zI 1) hx hb dX6_roundedUp_11 (by decide +kernel) ?_
    refine lz_isub hx hb dX6_roundedUp_12 ?_
    refine lv_iload_n hx hb dX6_roundedUp_13 rfl (lv_at hl 1 rfl) ?_
    obtain ⟨k3, hf⟩ := zck_some hf
    refine lz_idiv hx hb k3 dX6_roundedUp_14 ?_
    cases hf
    exact zreti hx hb hr hlocks hQ hH ⟨rfl, hbg⟩ dX6_roundedUp_15
  · replace hf := (if_neg c2).symm.trans hf
    refine lv_iconst (v := zI 0) hx hb dX6_roundedUp_4 (by decide +kernel) ?_
    refine lv_goto (tgt := 15) hx hb dX6_roundedUp_5 (by decide) ?_
    cases hf
    exact zreti hx hb hr hlocks hQ hH ⟨rfl, hbg⟩ dX6_roundedUp_15
abbrev rmX6_greaterDifference : Room := { frames := 1, cells := 0, slots := 0, locals := 21 }
theorem hd_X6_greaterDifference : yX6_greaterDifference.cls ≠ "java/lang/invoke/MethodHandle" ∧ yX6_greaterDifference.cls ≠ "java/lang/invoke/VarHandle" ∧ (parseMethodDescriptor yX6_greaterDifference.desc).map (fun d => d.parameters.length) = some 2 := by decide +kernel
set_option maxHeartbeats 4000000 in
set_option maxRecDepth 100000 in
theorem c_X6_greaterDifference {l : Launch} {D : va_G} {cI cZ cF cL cD : ClassId} {ad : Nat → Nat} {N : Nat} (hI : ∀ i j, i < N → j < N → ad i = ad j → i = j) (hN : 46 ≤ N) {σ0 : Nat → va_E} {sz : Nat} {p0 : Int} {p1 : Int} {R0 : Int}  (hf : f_X6_greaterDifference p0 p1 = some R0) :
    Met l yX6_greaterDifference (Cond.code yX6_greaterDifference cX6_greaterDifference 2 (some .int) :: wsL_law) rmX6_greaterDifference (zPre D ad N (zT cI cZ cF cL cD) σ0 sz [.int (zI p0), .int (zI p1)]) (zQi D ad N sz (fun r σ' => r = zI R0 ∧ σ' = σ0)) 0 0 (zFr ad N sz) := by
  refine zMet hI (plainFor_of_name (by decide)) (Nat.le_of_ble_eq_true rfl) ⟨rfl, rfl⟩ ?_
  intro p e s m args below meth c Q hx hb hr hlocks hml hown hts hK hsz hQ hH hA ls hl
  subst hsz
  have hl : lv_has ls 2 [(0, .int (zI p0)), (1, .int (zI p1))] := hl
  have hbg : σ0 = σ0 := rfl
  unfold f_X6_greaterDifference at hf
  refine lv_iload_n hx hb dX6_greaterDifference_0 rfl (lv_at hl 0 rfl) ?_
  obtain ⟨k1, hf⟩ := zck_some hf
  refine lz_mabs hx hb (hml.trans hl.1.symm) hown hts zk_t1_198 zk_t1_199 zk_t1_15 zk_t1_200 ⟨Nat.le_of_ble_eq_true rfl, Nat.le_of_ble_eq_true rfl⟩ ⟨Nat.zero_le _, Nat.zero_le _⟩ k1 dX6_greaterDifference_1 ?_
  refine lv_iload_n hx hb dX6_greaterDifference_4 rfl (lv_at hl 1 rfl) ?_
  obtain ⟨k2, hf⟩ := zck_some hf
  refine lz_mabs hx hb (hml.trans hl.1.symm) hown hts zk_t1_198 zk_t1_199 zk_t1_15 zk_t1_200 ⟨Nat.le_of_ble_eq_true rfl, Nat.le_of_ble_eq_true rfl⟩ ⟨Nat.zero_le _, Nat.zero_le _⟩ k2 dX6_greaterDifference_5 ?_
  obtain ⟨k3, hf⟩ := zck_some hf
  refine lz_mmax hx hb (hml.trans hl.1.symm) hown hts zk_t1_201 zk_t1_202 zk_t1_15 zk_t1_203 ⟨Nat.le_of_ble_eq_true rfl, Nat.le_of_ble_eq_true rfl⟩ ⟨Nat.zero_le _, Nat.zero_le _⟩ k3 dX6_greaterDifference_8 ?_
  cases hf
  exact zreti hx hb hr hlocks hQ hH ⟨rfl, hbg⟩ dX6_greaterDifference_11
abbrev rmX6_wholeRoot : Room := { frames := 0, cells := 0, slots := 0, locals := 0 }
theorem hd_X6_wholeRoot : yX6_wholeRoot.cls ≠ "java/lang/invoke/MethodHandle" ∧ yX6_wholeRoot.cls ≠ "java/lang/invoke/VarHandle" ∧ (parseMethodDescriptor yX6_wholeRoot.desc).map (fun d => d.parameters.length) = some 1 := by decide +kernel
set_option maxHeartbeats 4000000 in
set_option maxRecDepth 100000 in
theorem c_X6_wholeRoot {l : Launch} {D : va_G} {cI cZ cF cL cD : ClassId} {ad : Nat → Nat} {N : Nat} (hI : ∀ i j, i < N → j < N → ad i = ad j → i = j) (hN : 46 ≤ N) {σ0 : Nat → va_E} {sz : Nat} {p0 : Int} {R0 : Int}  (hf : f_X6_wholeRoot p0 = some R0) :
    Met l yX6_wholeRoot (Cond.code yX6_wholeRoot cX6_wholeRoot 4 (some .int) :: wsL_law) rmX6_wholeRoot (zPre D ad N (zT cI cZ cF cL cD) σ0 sz [.int (zI p0)]) (zQi D ad N sz (fun r σ' => r = zI R0 ∧ σ' = σ0)) 0 0 (zFr ad N sz) := by
  refine zMet hI (plainFor_of_name (by decide)) (Nat.le_of_ble_eq_true rfl) ⟨rfl, rfl⟩ ?_
  intro p e s m args below meth c Q hx hb hr hlocks hml hown hts hK hsz hQ hH hA ls hl
  subst hsz
  have hl : lv_has ls 4 [(0, .int (zI p0))] := hl
  have hbg : σ0 = σ0 := rfl
  have L6 : ∀ (x0 : Int)  (n : Nat) (x1 : Int) (x2 : Int) (x1' : Int) (x2' : Int), zlp (fun z => f_X6_wholeRoot_L6 x0 z.1 z.2) n (x1, x2) = some (x1', x2') → ∀ (σ : Nat → va_E) (H : Heap) (locs : List Loc) (hH : zH D ad N (zFr ad N s.heap.size) s.heap σ H locs)  (hbg : σ = σ0) (ls : Array Slot) (hl : lv_has ls 4 [(0, .int (zI x0)), (1, .int (zI x1)), (2, .int (zI x2))]), (∀ (σ : Nat → va_E) (H : Heap) (locs : List Loc) (hH : zH D ad N (zFr ad N s.heap.size) s.heap σ H locs)  (hbg : σ = σ0) (ls : Array Slot) (hl : lv_has ls 4 [(1, .int (zI (x1')))]), W p l e rmX6_wholeRoot s m args below meth c H locs 0 0 Q (F0 m 30 ls [])) → W p l e rmX6_wholeRoot s m args below meth c H locs 0 0 Q (F0 m 6 ls []) := by
    intro x0 n
    induction n with
    | zero => intro x1 x2 x1' x2' hz; exact (zlp_0 hz).elim
    | succ n ih =>
      intro x1 x2 x1' x2' hz σ H locs hH  hbg ls hl kx
      obtain ⟨nx, hf, hnx⟩ := zlp_some hz
      have hf : f_X6_wholeRoot_L6 x0 x1 x2 = some nx := hf
      unfold f_X6_wholeRoot_L6 at hf
      refine lv_iload_n hx hb dX6_wholeRoot_6 rfl (lv_at hl 2 rfl) ?_
      obtain ⟨k1, hf⟩ := zck_some hf
      refine lz_if_le (tgt := 30) hx hb k1 dX6_wholeRoot_7 (by decide) (fun c2 => ?_) (fun c2 => ?_)
      · replace hf := (if_pos c2).symm.trans hf
        cases hf
        cases hnx
        exact kx _ _ _ hH hbg _ (lv_sub hl [1] rfl)
      · replace hf := (if_neg c2).symm.trans hf
        refine lv_iload_n hx hb dX6_wholeRoot_10 rfl (lv_at hl 1 rfl) ?_
        refine lv_iload_n hx hb dX6_wholeRoot_11 rfl (lv_at hl 2 rfl) ?_
        refine lz_iadd hx hb dX6_wholeRoot_12 ?_
        obtain ⟨v3, ev3, hf⟩ := zlt_some hf
        refine lz_nm ev3 ?_
        refine lv_istore_n (lv' := [(3, .int (zI v3)), (0, .int (zI x0)), (1, .int (zI x1)), (2, .int (zI x2))]) hx hb dX6_wholeRoot_13 rfl hl (by decide) rfl (fun ls hl => ?_)
        refine lv_iload_n hx hb dX6_wholeRoot_14 rfl (lv_at hl 0 rfl) ?_
        refine lv_iload_n hx hb dX6_wholeRoot_15 rfl (lv_at hl 0 rfl) ?_
        refine lz_imul hx hb dX6_wholeRoot_16 ?_
        refine lv_iload_n hx hb dX6_wholeRoot_17 rfl (lv_at hl 1 rfl) ?_
        obtain ⟨k4, hf⟩ := zck_some hf
        refine lz_icmp_gt (tgt := 23) hx hb k4 dX6_wholeRoot_18 (by decide) (fun c5 => ?_) (fun c5 => ?_)
        · replace hf := (if_pos c5).symm.trans hf
          refine lv_iload_n hx hb dX6_wholeRoot_23 rfl (lv_at hl 3 rfl) ?_
          refine lv_iconst (v := zI 1) hx hb dX6_wholeRoot_24 (by decide +kernel) ?_
          obtain ⟨k6, hf⟩ := zck_some hf
          refine lz_shr1 hx hb k6 dX6_wholeRoot_25 ?_
          obtain ⟨v7, ev7, hf⟩ := zlt_some hf
          refine lz_nm ev7 ?_
          refine lv_istore_n (lv' := [(2, .int (zI v7)), (3, .int (zI v3)), (0, .int (zI x0)), (1, .int (zI x1))]) hx hb dX6_wholeRoot_26 rfl hl (by decide) rfl (fun ls hl => ?_)
          refine lv_goto (tgt := 6) hx hb dX6_wholeRoot_27 (by decide) ?_
          cases hf
          exact ih x1 v7 _ _ hnx _ _ _ hH hbg _ (lv_sub hl [2, 3, 0] rfl) kx
        · replace hf := (if_neg c5).symm.trans hf
          refine lv_iload_n hx hb dX6_wholeRoot_21 rfl (lv_at hl 0 rfl) ?_
          refine lv_istore_n (lv' := [(1, .int (zI v3)), (3, .int (zI v3)), (0, .int (zI x0)), (2, .int (zI x2))]) hx hb dX6_wholeRoot_22 rfl hl (by decide) rfl (fun ls hl => ?_)
          refine lv_iload_n hx hb dX6_wholeRoot_23 rfl (lv_at hl 3 rfl) ?_
          refine lv_iconst (v := zI 1) hx hb dX6_wholeRoot_24 (by decide +kernel) ?_
          obtain ⟨k8, hf⟩ := zck_some hf
          refine lz_shr1 hx hb k8 dX6_wholeRoot_25 ?_
          obtain ⟨v9, ev9, hf⟩ := zlt_some hf
          refine lz_nm ev9 ?_
          refine lv_istore_n (lv' := [(2, .int (zI v9)), (1, .int (zI v3)), (3, .int (zI v3)), (0, .int (zI x0))]) hx hb dX6_wholeRoot_26 rfl hl (by decide) rfl (fun ls hl => ?_)
          refine lv_goto (tgt := 6) hx hb dX6_wholeRoot_27 (by decide) ?_
          cases hf
          exact ih v3 v9 _ _ hnx _ _ _ hH hbg _ (lv_sub hl [3, 1, 0] rfl) kx
  unfold f_X6_wholeRoot at hf
  refine lv_iconst (v := zI 0) hx hb dX6_wholeRoot_0 (by decide +kernel) ?_
  refine lv_istore_n (lv' := [(1, .int (zI 0)), (0, .int (zI p0))]) hx hb dX6_wholeRoot_1 rfl hl (by decide) rfl (fun ls hl => ?_)
  refine lv_sipush (v := zI 128) hx hb dX6_wholeRoot_2 (by decide +kernel) ?_
  refine lv_istore_n (lv' := [(2, .int (zI 128)), (1, .int (zI 0)), (0, .int (zI p0))]) hx hb dX6_wholeRoot_5 rfl hl (by decide) rfl (fun ls hl => ?_)
  obtain ⟨w11, w12, k10, hf⟩ := zb2_some hf
  refine L6 p0 zFU 0 128 w11 w12 k10 _ _ _ hH hbg _ (lv_sub hl [2, 1, 0] rfl) (fun σ13 Hσ13 lσ13 hH  hbg ls hl => ?_)
  refine lv_iload_n hx hb dX6_wholeRoot_30 rfl (lv_at hl 0 rfl) ?_
  cases hf
  exact zreti hx hb hr hlocks hQ hH ⟨rfl, hbg⟩ dX6_wholeRoot_31
abbrev rmX4_put : Room := { frames := 0, cells := 0, slots := 0, locals := 0 }
theorem hd_X4_put : yX4_put.cls = RX4 ∧ yX4_put.cls ≠ "java/lang/invoke/MethodHandle" ∧ yX4_put.cls ≠ "java/lang/invoke/VarHandle" ∧ (parseMethodDescriptor yX4_put.desc).map (fun d => d.parameters.length) = some 2 := by decide +kernel
set_option maxHeartbeats 4000000 in
set_option maxRecDepth 100000 in
theorem c_X4_put {l : Launch} {D : va_G} {cI cZ cF cL cD : ClassId} {ad : Nat → Nat} {N : Nat} (hI : ∀ i j, i < N → j < N → ad i = ad j → i = j) (hN : 46 ≤ N) {o : Nat} (ho : 46 ≤ o ∧ o + 7 ≤ N) {σ0 : Nat → va_E} {sz : Nat} {pt_xs : Int → Int} {pt_ys : Int → Int} {pt_size : Int} {p1 : Int} {p2 : Int} {R_pt_xs : Int → Int} {R_pt_ys : Int → Int} {R_pt_size : Int} (h_pt : σ0 (o + 4) = oC_pt ad o pt_size) (h_pt_xs : σ0 (o + 5) = .inl (cI, 2078, .inl (zA pt_xs))) (h_pt_ys : σ0 (o + 6) = .inl (cI, 2078, .inl (zA pt_ys))) (hf : f_X4_put pt_xs pt_ys pt_size p1 p2 = some (R_pt_xs, R_pt_ys, R_pt_size)) :
    Met l yX4_put (Cond.code yX4_put cX4_put 4 none :: wsL_law) rmX4_put (zPre D ad N (zT cI cZ cF cL cD) σ0 sz [.ref (ad (o + 4)), .int (zI p1), .int (zI p2)]) (zQv D ad N sz (fun σ' => σ' (o + 4) = oC_pt ad o R_pt_size ∧ σ' (o + 5) = .inl (cI, 2078, .inl (zA R_pt_xs)) ∧ σ' (o + 6) = .inl (cI, 2078, .inl (zA R_pt_ys)) ∧ ∀ i : Nat, i ≠ (o + 4) → i ≠ (o + 5) → i ≠ (o + 6) → σ' i = σ0 i)) 0 0 (zFr ad N sz) := by
  refine zMet hI (plainFor_of_name (by decide)) (Nat.le_of_ble_eq_true rfl) ⟨rfl, rfl⟩ ?_
  intro p e s m args below meth c Q hx hb hr hlocks hml hown hts hK hsz hQ hH hA ls hl
  subst hsz
  have hk_pt : (o + 4) < N := by omega
  have hk_pt_xs : (o + 5) < N := by omega
  have hk_pt_ys : (o + 6) < N := by omega
  have hl : lv_has ls 4 [(0, .ref (ad (o + 4))), (1, .int (zI p1)), (2, .int (zI p2))] := hl
  have hbg : ∀ i : Nat, i ≠ (o + 4) → i ≠ (o + 5) → i ≠ (o + 6) → σ0 i = σ0 i := fun _ _ _ _ => rfl
  unfold f_X4_put at hf
  refine lv_aload_n hx hb dX4_put_0 rfl (lv_at hl 0 rfl) ?_
  refine zget hx hb inlX4 rfl 2 rfl zk_t2_233 hts hown hK hH hk_pt h_pt rfl dX4_put_1 ?_
  refine lv_istore_n (lv' := [(3, .int (zI pt_size)), (0, .ref (ad (o + 4))), (1, .int (zI p1)), (2, .int (zI p2))]) hx hb dX4_put_4 rfl hl (by decide) rfl (fun ls hl => ?_)
  refine lv_iload_n hx hb dX4_put_5 rfl (lv_at hl 0 rfl) ?_
  refine lv_aload_n hx hb dX4_put_6 rfl (lv_at hl 1 rfl) ?_
  refine zget hx hb inlX4 rfl 0 rfl zk_t2_227 hts hown hK hH hk_pt h_pt rfl dX4_put_7 ?_
  refine zalen (z := 2078) hx hb hK hH hk_pt_xs 0 h_pt_xs rfl (show Int32.ofNat 2078 = zI 2078 by decide +kernel) dX4_put_10 ?_
  obtain ⟨k1, hf⟩ := zck_some hf
  refine lz_icmp_ge (tgt := 44) hx hb ⟨k1, by decide⟩ dX4_put_11 (by decide) (fun c2 => ?_) (fun c2 => ?_)
  · replace hf := (if_pos c2).symm.trans hf
    cases hf
    exact zretv hx hb hr hlocks hQ hH ⟨h_pt, h_pt_xs, h_pt_ys, hbg⟩ dX4_put_44
  · replace hf := (if_neg c2).symm.trans hf
    refine lv_iload_n hx hb dX4_put_14 rfl (lv_at hl 0 rfl) ?_
    refine lv_aload_n hx hb dX4_put_15 rfl (lv_at hl 1 rfl) ?_
    refine zget hx hb inlX4 rfl 1 rfl zk_t2_230 hts hown hK hH hk_pt h_pt rfl dX4_put_16 ?_
    refine zalen (z := 2078) hx hb hK hH hk_pt_ys 0 h_pt_ys rfl (show Int32.ofNat 2078 = zI 2078 by decide +kernel) dX4_put_19 ?_
    obtain ⟨k3, hf⟩ := zck_some hf
    refine lz_icmp_ge (tgt := 44) hx hb ⟨k3, by decide⟩ dX4_put_20 (by decide) (fun c4 => ?_) (fun c4 => ?_)
    · replace hf := (if_pos c4).symm.trans hf
      cases hf
      exact zretv hx hb hr hlocks hQ hH ⟨h_pt, h_pt_xs, h_pt_ys, hbg⟩ dX4_put_44
    · replace hf := (if_neg c4).symm.trans hf
      refine lv_aload_n hx hb dX4_put_23 rfl (lv_at hl 1 rfl) ?_
      refine zget hx hb inlX4 rfl 0 rfl zk_t2_227 hts hown hK hH hk_pt h_pt rfl dX4_put_24 ?_
      refine lv_iload_n hx hb dX4_put_27 rfl (lv_at hl 0 rfl) ?_
      refine lv_iload_n hx hb dX4_put_28 rfl (lv_at hl 2 rfl) ?_
      obtain ⟨k5, hf⟩ := zck_some hf
      obtain ⟨a7, ea7, hf⟩ := zlt_some hf
      refine ziast hx hb hK hH hk_pt_xs 0 h_pt_xs rfl k5 rfl dX4_put_29 (fun σ6 Hσ6 lσ6 h_pt_xs hn hH => ?_)
      rw [← ea7] at h_pt_xs
      have h_pt := (hn (o + 4) (by omega)).trans h_pt
      have h_pt_ys := (hn (o + 6) (by omega)).trans h_pt_ys
      have hbg : ∀ i : Nat, i ≠ (o + 4) → i ≠ (o + 5) → i ≠ (o + 6) → σ6 i = σ0 i := fun i a0 a1 a2 => (hn i a1).trans (hbg i a0 a1 a2)
      refine lv_aload_n hx hb dX4_put_30 rfl (lv_at hl 1 rfl) ?_
      refine zget hx hb inlX4 rfl 1 rfl zk_t2_230 hts hown hK hH hk_pt h_pt rfl dX4_put_31 ?_
      refine lv_iload_n hx hb dX4_put_34 rfl (lv_at hl 0 rfl) ?_
      refine lv_iload_n hx hb dX4_put_35 rfl (lv_at hl 3 rfl) ?_
      obtain ⟨k8, hf⟩ := zck_some hf
      obtain ⟨a10, ea10, hf⟩ := zlt_some hf
      refine ziast hx hb hK hH hk_pt_ys 0 h_pt_ys rfl k8 rfl dX4_put_36 (fun σ9 Hσ9 lσ9 h_pt_ys hn hH => ?_)
      rw [← ea10] at h_pt_ys
      have h_pt := (hn (o + 4) (by omega)).trans h_pt
      have h_pt_xs := (hn (o + 5) (by omega)).trans h_pt_xs
      have hbg : ∀ i : Nat, i ≠ (o + 4) → i ≠ (o + 5) → i ≠ (o + 6) → σ9 i = σ0 i := fun i a0 a1 a2 => (hn i a2).trans (hbg i a0 a1 a2)
      refine lv_aload_n hx hb dX4_put_37 rfl (lv_at hl 1 rfl) ?_
      refine lv_iload_n hx hb dX4_put_38 rfl (lv_at hl 0 rfl) ?_
      refine lv_iconst (v := zI 1) hx hb dX4_put_39 (by decide +kernel) ?_
      refine lz_iadd hx hb dX4_put_40 ?_
      obtain ⟨v11, ev11, hf⟩ := zlt_some hf
      refine lz_nm ev11 ?_
      refine zput hx hb inlX4 tyX4 tyX4_ok nmX4 rfl 2 rfl zk_t2_233 rfl hts hown hK hH hk_pt h_pt rfl rfl rfl dX4_put_41 (fun σ12 Hσ12 lσ12 h_pt hn hH => ?_)
      have h_pt : σ12 (o + 4) = oC_pt ad o v11 := h_pt
      have h_pt_xs := (hn (o + 5) (by omega)).trans h_pt_xs
      have h_pt_ys := (hn (o + 6) (by omega)).trans h_pt_ys
      have hbg : ∀ i : Nat, i ≠ (o + 4) → i ≠ (o + 5) → i ≠ (o + 6) → σ12 i = σ0 i := fun i a0 a1 a2 => (hn i a0).trans (hbg i a0 a1 a2)
      cases hf
      exact zretv hx hb hr hlocks hQ hH ⟨h_pt, h_pt_xs, h_pt_ys, hbg⟩ dX4_put_44
abbrev rmX4_firstX : Room := { frames := 0, cells := 0, slots := 0, locals := 0 }
theorem hd_X4_firstX : yX4_firstX.cls = RX4 ∧ yX4_firstX.cls ≠ "java/lang/invoke/MethodHandle" ∧ yX4_firstX.cls ≠ "java/lang/invoke/VarHandle" ∧ (parseMethodDescriptor yX4_firstX.desc).map (fun d => d.parameters.length) = some 0 := by decide +kernel
set_option maxHeartbeats 4000000 in
set_option maxRecDepth 100000 in
theorem c_X4_firstX {l : Launch} {D : va_G} {cI cZ cF cL cD : ClassId} {ad : Nat → Nat} {N : Nat} (hI : ∀ i j, i < N → j < N → ad i = ad j → i = j) (hN : 46 ≤ N) {o : Nat} (ho : 46 ≤ o ∧ o + 7 ≤ N) {σ0 : Nat → va_E} {sz : Nat} {pt_xs : Int → Int} {pt_size : Int} {R0 : Int} (h_pt : σ0 (o + 4) = oC_pt ad o pt_size) (h_pt_xs : σ0 (o + 5) = .inl (cI, 2078, .inl (zA pt_xs))) (hf : f_X4_firstX pt_xs pt_size = some R0) :
    Met l yX4_firstX (Cond.code yX4_firstX cX4_firstX 1 (some .int) :: wsL_law) rmX4_firstX (zPre D ad N (zT cI cZ cF cL cD) σ0 sz [.ref (ad (o + 4))]) (zQi D ad N sz (fun r σ' => r = zI R0 ∧ σ' = σ0)) 0 0 (zFr ad N sz) := by
  refine zMet hI (plainFor_of_name (by decide)) (Nat.le_of_ble_eq_true rfl) ⟨rfl, rfl⟩ ?_
  intro p e s m args below meth c Q hx hb hr hlocks hml hown hts hK hsz hQ hH hA ls hl
  subst hsz
  have hk_pt : (o + 4) < N := by omega
  have hk_pt_xs : (o + 5) < N := by omega
  have hl : lv_has ls 1 [(0, .ref (ad (o + 4)))] := hl
  have hbg : σ0 = σ0 := rfl
  unfold f_X4_firstX at hf
  refine lv_aload_n hx hb dX4_firstX_0 rfl (lv_at hl 0 rfl) ?_
  refine zget hx hb inlX4 rfl 2 rfl zk_t2_233 hts hown hK hH hk_pt h_pt rfl dX4_firstX_1 ?_
  obtain ⟨k1, hf⟩ := zck_some hf
  refine lz_if_le (tgt := 16) hx hb k1 dX4_firstX_4 (by decide) (fun c2 => ?_) (fun c2 => ?_)
  · replace hf := (if_pos c2).symm.trans hf
    refine lv_iconst (v := zI 0) hx hb dX4_firstX_16 (by decide +kernel) ?_
    cases hf
    exact zreti hx hb hr hlocks hQ hH ⟨rfl, hbg⟩ dX4_firstX_17
  · replace hf := (if_neg c2).symm.trans hf
    refine lv_aload_n hx hb dX4_firstX_7 rfl (lv_at hl 0 rfl) ?_
    refine zget hx hb inlX4 rfl 0 rfl zk_t2_227 hts hown hK hH hk_pt h_pt rfl dX4_firstX_8 ?_
    refine lv_iconst (v := zI 0) hx hb dX4_firstX_11 (by decide +kernel) ?_
    refine ziald hx hb hK hH hk_pt_xs 0 h_pt_xs rfl (by decide) rfl dX4_firstX_12 ?_
    refine lv_goto (tgt := 17) hx hb dX4_firstX_13 (by decide) ?_
    cases hf
    exact zreti hx hb hr hlocks hQ hH ⟨rfl, hbg⟩ dX4_firstX_17
abbrev rmX0_leastY : Room := { frames := 1, cells := 0, slots := 0, locals := 21 }
theorem hd_X0_leastY : yX0_leastY.cls = RX0 ∧ yX0_leastY.cls ≠ "java/lang/invoke/MethodHandle" ∧ yX0_leastY.cls ≠ "java/lang/invoke/VarHandle" ∧ (parseMethodDescriptor yX0_leastY.desc).map (fun d => d.parameters.length) = some 0 := by decide +kernel
set_option maxHeartbeats 4000000 in
set_option maxRecDepth 100000 in
theorem c_X0_leastY {l : Launch} {D : va_G} {cI cZ cF cL cD : ClassId} {ad : Nat → Nat} {N : Nat} (hI : ∀ i j, i < N → j < N → ad i = ad j → i = j) (hN : 46 ≤ N) {o : Nat} (ho : 46 ≤ o ∧ o + 7 ≤ N) {σ0 : Nat → va_E} {sz : Nat} {fd_colour : Int} {fd_layer : Int} {fd_column : Int} {fd_cornerYs : Int → Int} {fd_cornerCount : Int} {fd_crossingCount : Int} {fd_density : Int} {fd_length : Int} {fd_shift : Int} {fd_pull : Int} {fd_underlay : Int} {fd_drawn : Int} {R0 : Int} (h_fd : σ0 o = oC_fd ad o fd_colour fd_layer fd_column fd_cornerCount fd_crossingCount fd_density fd_length fd_shift fd_pull fd_underlay fd_drawn) (h_fd_cornerYs : σ0 (o + 2) = .inl (cI, 8, .inl (zA fd_cornerYs))) (hf : f_X0_leastY fd_cornerYs fd_cornerCount = some R0) :
    Met l yX0_leastY (Cond.code yX0_leastY cX0_leastY 3 (some .int) :: wsL_law) rmX0_leastY (zPre D ad N (zT cI cZ cF cL cD) σ0 sz [.ref (ad o)]) (zQi D ad N sz (fun r σ' => r = zI R0 ∧ σ' = σ0)) 0 0 (zFr ad N sz) := by
  refine zMet hI (plainFor_of_name (by decide)) (Nat.le_of_ble_eq_true rfl) ⟨rfl, rfl⟩ ?_
  intro p e s m args below meth c Q hx hb hr hlocks hml hown hts hK hsz hQ hH hA ls hl
  subst hsz
  have hk_fd : o < N := by omega
  have hk_fd_cornerYs : (o + 2) < N := by omega
  have hl : lv_has ls 3 [(0, .ref (ad o))] := hl
  have hbg : σ0 = σ0 := rfl
  have L5 : ∀ (fd_cornerYs : Int → Int) (fd_cornerCount : Int) (fd_colour : Int) (fd_layer : Int) (fd_column : Int) (fd_crossingCount : Int) (fd_density : Int) (fd_length : Int) (fd_shift : Int) (fd_pull : Int) (fd_underlay : Int) (fd_drawn : Int) (n : Nat) (x1 : Int) (x2 : Int) (x1' : Int) (x2' : Int), zlp (fun z => f_X0_leastY_L5 fd_cornerYs fd_cornerCount z.1 z.2) n (x1, x2) = some (x1', x2') → ∀ (σ : Nat → va_E) (H : Heap) (locs : List Loc) (hH : zH D ad N (zFr ad N s.heap.size) s.heap σ H locs) (h_fd : σ o = oC_fd ad o fd_colour fd_layer fd_column fd_cornerCount fd_crossingCount fd_density fd_length fd_shift fd_pull fd_underlay fd_drawn) (h_fd_cornerYs : σ (o + 2) = .inl (cI, 8, .inl (zA fd_cornerYs))) (hbg : σ = σ0) (ls : Array Slot) (hl : lv_has ls 3 [(0, .ref (ad o)), (1, .int (zI x1)), (2, .int (zI x2))]), (∀ (σ : Nat → va_E) (H : Heap) (locs : List Loc) (hH : zH D ad N (zFr ad N s.heap.size) s.heap σ H locs) (h_fd : σ o = oC_fd ad o fd_colour fd_layer fd_column fd_cornerCount fd_crossingCount fd_density fd_length fd_shift fd_pull fd_underlay fd_drawn) (h_fd_cornerYs : σ (o + 2) = .inl (cI, 8, .inl (zA fd_cornerYs))) (hbg : σ = σ0) (ls : Array Slot) (hl : lv_has ls 3 [(1, .int (zI (x1')))]), W p l e rmX0_leastY s m args below meth c H locs 0 0 Q (F0 m 39 ls [])) → W p l e rmX0_leastY s m args below meth c H locs 0 0 Q (F0 m 5 ls []) := by
    intro fd_cornerYs fd_cornerCount fd_colour fd_layer fd_column fd_crossingCount fd_density fd_length fd_shift fd_pull fd_underlay fd_drawn n
    induction n with
    | zero => intro x1 x2 x1' x2' hz; exact (zlp_0 hz).elim
    | succ n ih =>
      intro x1 x2 x1' x2' hz σ H locs hH h_fd h_fd_cornerYs hbg ls hl kx
      obtain ⟨nx, hf, hnx⟩ := zlp_some hz
      have hf : f_X0_leastY_L5 fd_cornerYs fd_cornerCount x1 x2 = some nx := hf
      unfold f_X0_leastY_L5 at hf
      refine lv_iload_n hx hb dX0_leastY_5 rfl (lv_at hl 2 rfl) ?_
      refine lv_aload_n hx hb dX0_leastY_6 rfl (lv_at hl 0 rfl) ?_
      refine zget hx hb inlX0 rfl 7 rfl zk_t3_18 hts hown hK hH hk_fd h_fd rfl dX0_leastY_7 ?_
      obtain ⟨k1, hf⟩ := zck_some hf
      refine lz_icmp_ge (tgt := 39) hx hb k1 dX0_leastY_10 (by decide) (fun c2 => ?_) (fun c2 => ?_)
      · replace hf := (if_pos c2).symm.trans hf
        cases hf
        cases hnx
        exact kx _ _ _ hH h_fd h_fd_cornerYs hbg _ (lv_sub hl [1] rfl)
      · replace hf := (if_neg c2).symm.trans hf
        refine lv_iload_n hx hb dX0_leastY_13 rfl (lv_at hl 2 rfl) ?_
        refine lv_aload_n hx hb dX0_leastY_14 rfl (lv_at hl 0 rfl) ?_
        refine zget hx hb inlX0 rfl 4 rfl zk_t3_13 hts hown hK hH hk_fd h_fd rfl dX0_leastY_15 ?_
        refine zalen (z := 8) hx hb hK hH hk_fd_cornerYs 0 h_fd_cornerYs rfl (show Int32.ofNat 8 = zI 8 by decide +kernel) dX0_leastY_18 ?_
        obtain ⟨k3, hf⟩ := zck_some hf
        refine lz_icmp_ge (tgt := 39) hx hb ⟨k3, by decide⟩ dX0_leastY_19 (by decide) (fun c4 => ?_) (fun c4 => ?_)
        · replace hf := (if_pos c4).symm.trans hf
          cases hf
          cases hnx
          exact kx _ _ _ hH h_fd h_fd_cornerYs hbg _ (lv_sub hl [1] rfl)
        · replace hf := (if_neg c4).symm.trans hf
          refine lv_iload_n hx hb dX0_leastY_22 rfl (lv_at hl 1 rfl) ?_
          refine lv_aload_n hx hb dX0_leastY_23 rfl (lv_at hl 0 rfl) ?_
          refine zget hx hb inlX0 rfl 4 rfl zk_t3_13 hts hown hK hH hk_fd h_fd rfl dX0_leastY_24 ?_
          refine lv_iload_n hx hb dX0_leastY_27 rfl (lv_at hl 2 rfl) ?_
          obtain ⟨k5, hf⟩ := zck_some hf
          refine ziald hx hb hK hH hk_fd_cornerYs 0 h_fd_cornerYs rfl k5 rfl dX0_leastY_28 ?_
          obtain ⟨k6, hf⟩ := zck_some hf
          refine lz_mmin hx hb (hml.trans hl.1.symm) hown hts zk_t1_238 zk_t1_239 zk_t1_15 zk_t2_0 ⟨Nat.le_of_ble_eq_true rfl, Nat.le_of_ble_eq_true rfl⟩ ⟨Nat.zero_le _, Nat.zero_le _⟩ k6 dX0_leastY_29 ?_
          obtain ⟨v7, ev7, hf⟩ := zlt_some hf
          refine lz_nm ev7 ?_
          refine lv_istore_n (lv' := [(1, .int (zI v7)), (0, .ref (ad o)), (2, .int (zI x2))]) hx hb dX0_leastY_32 rfl hl (by decide) rfl (fun ls hl => ?_)
          refine lz_iinc (lv' := [(2, .int (zI (x2 + 1))), (1, .int (zI v7)), (0, .ref (ad o))]) hx hb dX0_leastY_33 hl (j := 2) rfl (by decide) rfl (fun ls hl => ?_)
          refine lv_goto (tgt := 5) hx hb dX0_leastY_36 (by decide) ?_
          cases hf
          exact ih v7 (x2 + 1) _ _ hnx _ _ _ hH h_fd h_fd_cornerYs hbg _ (lv_sub hl [2, 1, 0] rfl) kx
  unfold f_X0_leastY at hf
  refine lv_bipush (v := zI 32) hx hb dX0_leastY_0 (by decide +kernel) ?_
  refine lv_istore_n (lv' := [(1, .int (zI 32)), (0, .ref (ad o))]) hx hb dX0_leastY_2 rfl hl (by decide) rfl (fun ls hl => ?_)
  refine lv_iconst (v := zI 0) hx hb dX0_leastY_3 (by decide +kernel) ?_
  refine lv_istore_n (lv' := [(2, .int (zI 0)), (1, .int (zI 32)), (0, .ref (ad o))]) hx hb dX0_leastY_4 rfl hl (by decide) rfl (fun ls hl => ?_)
  obtain ⟨w9, w10, k8, hf⟩ := zb2_some hf
  refine L5 fd_cornerYs fd_cornerCount fd_colour fd_layer fd_column fd_crossingCount fd_density fd_length fd_shift fd_pull fd_underlay fd_drawn zFU 32 0 w9 w10 k8 _ _ _ hH h_fd h_fd_cornerYs hbg _ (lv_sub hl [2, 1, 0] rfl) (fun σ11 Hσ11 lσ11 hH h_fd h_fd_cornerYs hbg ls hl => ?_)
  refine lv_iload_n hx hb dX0_leastY_39 rfl (lv_at hl 0 rfl) ?_
  cases hf
  exact zreti hx hb hr hlocks hQ hH ⟨rfl, hbg⟩ dX0_leastY_40
abbrev rmX0_canResize : Room := { frames := 1, cells := 0, slots := 0, locals := 21 }
theorem hd_X0_canResize : yX0_canResize.cls = RX0 ∧ yX0_canResize.cls ≠ "java/lang/invoke/MethodHandle" ∧ yX0_canResize.cls ≠ "java/lang/invoke/VarHandle" ∧ (parseMethodDescriptor yX0_canResize.desc).map (fun d => d.parameters.length) = some 1 := by decide +kernel
set_option maxHeartbeats 4000000 in
set_option maxRecDepth 100000 in
theorem c_X0_canResize {l : Launch} {D : va_G} {cI cZ cF cL cD : ClassId} {ad : Nat → Nat} {N : Nat} (hI : ∀ i j, i < N → j < N → ad i = ad j → i = j) (hN : 46 ≤ N) {o : Nat} (ho : 46 ≤ o ∧ o + 7 ≤ N) {σ0 : Nat → va_E} {sz : Nat} {fd_colour : Int} {fd_layer : Int} {fd_column : Int} {fd_cornerXs : Int → Int} {fd_cornerYs : Int → Int} {fd_cornerCount : Int} {fd_crossingCount : Int} {fd_density : Int} {fd_length : Int} {fd_shift : Int} {fd_pull : Int} {fd_underlay : Int} {fd_drawn : Int} {p1 : Int} {R0 : Int} (h_fd : σ0 o = oC_fd ad o fd_colour fd_layer fd_column fd_cornerCount fd_crossingCount fd_density fd_length fd_shift fd_pull fd_underlay fd_drawn) (h_fd_cornerXs : σ0 (o + 1) = .inl (cI, 8, .inl (zA fd_cornerXs))) (h_fd_cornerYs : σ0 (o + 2) = .inl (cI, 8, .inl (zA fd_cornerYs))) (hf : f_X0_canResize fd_cornerXs fd_cornerYs fd_cornerCount p1 = some R0) :
    Met l yX0_canResize (Cond.code yX0_canResize cX0_canResize 4 (some .boolean) :: wsL_law) rmX0_canResize (zPre D ad N (zT cI cZ cF cL cD) σ0 sz [.ref (ad o), .int (zI p1)]) (zQi D ad N sz (fun r σ' => r = zI R0 ∧ σ' = σ0)) 0 0 (zFr ad N sz) := by
  refine zMet hI (plainFor_of_name (by decide)) (Nat.le_of_ble_eq_true rfl) ⟨rfl, rfl⟩ ?_
  intro p e s m args below meth c Q hx hb hr hlocks hml hown hts hK hsz hQ hH hA ls hl
  subst hsz
  have hk_fd : o < N := by omega
  have hk_fd_cornerXs : (o + 1) < N := by omega
  have hk_fd_cornerYs : (o + 2) < N := by omega
  have hl : lv_has ls 4 [(0, .ref (ad o)), (1, .int (zI p1))] := hl
  have hbg : σ0 = σ0 := rfl
  have L2 : ∀ (fd_cornerXs : Int → Int) (fd_cornerYs : Int → Int) (fd_cornerCount : Int) (x1 : Int) (fd_colour : Int) (fd_layer : Int) (fd_column : Int) (fd_crossingCount : Int) (fd_density : Int) (fd_length : Int) (fd_shift : Int) (fd_pull : Int) (fd_underlay : Int) (fd_drawn : Int) (n : Nat) (x2 : Int) (res : ((Int) ⊕ (Int))), zlp (fun z => f_X0_canResize_L2 fd_cornerXs fd_cornerYs fd_cornerCount x1 z) n x2 = some res → ∀ (σ : Nat → va_E) (H : Heap) (locs : List Loc) (hH : zH D ad N (zFr ad N s.heap.size) s.heap σ H locs) (h_fd : σ o = oC_fd ad o fd_colour fd_layer fd_column fd_cornerCount fd_crossingCount fd_density fd_length fd_shift fd_pull fd_underlay fd_drawn) (h_fd_cornerXs : σ (o + 1) = .inl (cI, 8, .inl (zA fd_cornerXs))) (h_fd_cornerYs : σ (o + 2) = .inl (cI, 8, .inl (zA fd_cornerYs))) (hbg : σ = σ0) (ls : Array Slot) (hl : lv_has ls 4 [(0, .ref (ad o)), (1, .int (zI x1)), (2, .int (zI x2))]), (∀ (x2' : Int), res = .inl x2' → ∀ (σ : Nat → va_E) (H : Heap) (locs : List Loc) (hH : zH D ad N (zFr ad N s.heap.size) s.heap σ H locs) (h_fd : σ o = oC_fd ad o fd_colour fd_layer fd_column fd_cornerCount fd_crossingCount fd_density fd_length fd_shift fd_pull fd_underlay fd_drawn) (h_fd_cornerXs : σ (o + 1) = .inl (cI, 8, .inl (zA fd_cornerXs))) (h_fd_cornerYs : σ (o + 2) = .inl (cI, 8, .inl (zA fd_cornerYs))) (hbg : σ = σ0) (ls : Array Slot) (hl : lv_has ls 4 []), W p l e rmX0_canResize s m args below meth c H locs 0 0 Q (F0 m 63 ls [])) → (∀ b, res = .inr b → some b = some R0) → W p l e rmX0_canResize s m args below meth c H locs 0 0 Q (F0 m 2 ls []) := by
    intro fd_cornerXs fd_cornerYs fd_cornerCount x1 fd_colour fd_layer fd_column fd_crossingCount fd_density fd_length fd_shift fd_pull fd_underlay fd_drawn n
    induction n with
    | zero => intro x2 res hz; exact (zlp_0 hz).elim
    | succ n ih =>
      intro x2 res hz σ H locs hH h_fd h_fd_cornerXs h_fd_cornerYs hbg ls hl kx kr
      obtain ⟨nx, hf, hnx⟩ := zlp_some hz
      have hf : f_X0_canResize_L2 fd_cornerXs fd_cornerYs fd_cornerCount x1 x2 = some nx := hf
      unfold f_X0_canResize_L2 at hf
      refine lv_iload_n hx hb dX0_canResize_2 rfl (lv_at hl 2 rfl) ?_
      refine lv_aload_n hx hb dX0_canResize_3 rfl (lv_at hl 0 rfl) ?_
      refine zget hx hb inlX0 rfl 7 rfl zk_t3_18 hts hown hK hH hk_fd h_fd rfl dX0_canResize_4 ?_
      obtain ⟨k1, hf⟩ := zck_some hf
      refine lz_icmp_ge (tgt := 63) hx hb k1 dX0_canResize_7 (by decide) (fun c2 => ?_) (fun c2 => ?_)
      · replace hf := (if_pos c2).symm.trans hf
        cases hf
        exact kx x2 hnx.symm _ _ _ hH h_fd h_fd_cornerXs h_fd_cornerYs hbg _ (lv_sub hl [] rfl)
      · replace hf := (if_neg c2).symm.trans hf
        refine lv_iload_n hx hb dX0_canResize_10 rfl (lv_at hl 2 rfl) ?_
        refine lv_aload_n hx hb dX0_canResize_11 rfl (lv_at hl 0 rfl) ?_
        refine zget hx hb inlX0 rfl 3 rfl zk_t3_12 hts hown hK hH hk_fd h_fd rfl dX0_canResize_12 ?_
        refine zalen (z := 8) hx hb hK hH hk_fd_cornerXs 0 h_fd_cornerXs rfl (show Int32.ofNat 8 = zI 8 by decide +kernel) dX0_canResize_15 ?_
        obtain ⟨k3, hf⟩ := zck_some hf
        refine lz_icmp_ge (tgt := 63) hx hb ⟨k3, by decide⟩ dX0_canResize_16 (by decide) (fun c4 => ?_) (fun c4 => ?_)
        · replace hf := (if_pos c4).symm.trans hf
          cases hf
          exact kx x2 hnx.symm _ _ _ hH h_fd h_fd_cornerXs h_fd_cornerYs hbg _ (lv_sub hl [] rfl)
        · replace hf := (if_neg c4).symm.trans hf
          refine lv_iload_n hx hb dX0_canResize_19 rfl (lv_at hl 2 rfl) ?_
          refine lv_aload_n hx hb dX0_canResize_20 rfl (lv_at hl 0 rfl) ?_
          refine zget hx hb inlX0 rfl 4 rfl zk_t3_13 hts hown hK hH hk_fd h_fd rfl dX0_canResize_21 ?_
          refine zalen (z := 8) hx hb hK hH hk_fd_cornerYs 0 h_fd_cornerYs rfl (show Int32.ofNat 8 = zI 8 by decide +kernel) dX0_canResize_24 ?_
          obtain ⟨k5, hf⟩ := zck_some hf
          refine lz_icmp_ge (tgt := 63) hx hb ⟨k5, by decide⟩ dX0_canResize_25 (by decide) (fun c6 => ?_) (fun c6 => ?_)
          · replace hf := (if_pos c6).symm.trans hf
            cases hf
            exact kx x2 hnx.symm _ _ _ hH h_fd h_fd_cornerXs h_fd_cornerYs hbg _ (lv_sub hl [] rfl)
          · replace hf := (if_neg c6).symm.trans hf
            refine lv_aload_n hx hb dX0_canResize_28 rfl (lv_at hl 0 rfl) ?_
            refine zget hx hb inlX0 rfl 3 rfl zk_t3_12 hts hown hK hH hk_fd h_fd rfl dX0_canResize_29 ?_
            refine lv_iload_n hx hb dX0_canResize_32 rfl (lv_at hl 2 rfl) ?_
            obtain ⟨k7, hf⟩ := zck_some hf
            refine ziald hx hb hK hH hk_fd_cornerXs 0 h_fd_cornerXs rfl k7 rfl dX0_canResize_33 ?_
            refine lv_aload_n hx hb dX0_canResize_34 rfl (lv_at hl 0 rfl) ?_
            refine zget hx hb inlX0 rfl 4 rfl zk_t3_13 hts hown hK hH hk_fd h_fd rfl dX0_canResize_35 ?_
            refine lv_iload_n hx hb dX0_canResize_38 rfl (lv_at hl 2 rfl) ?_
            obtain ⟨k8, hf⟩ := zck_some hf
            refine ziald hx hb hK hH hk_fd_cornerYs 0 h_fd_cornerYs rfl k8 rfl dX0_canResize_39 ?_
            obtain ⟨k9, hf⟩ := zck_some hf
            refine lz_mmax hx hb (hml.trans hl.1.symm) hown hts zk_t1_204 zk_t1_202 zk_t1_15 zk_t1_203 ⟨Nat.le_of_ble_eq_true rfl, Nat.le_of_ble_eq_true rfl⟩ ⟨Nat.zero_le _, Nat.zero_le _⟩ k9 dX0_canResize_40 ?_
            obtain ⟨v10, ev10, hf⟩ := zlt_some hf
            refine lz_nm ev10 ?_
            refine lv_istore_n (lv' := [(3, .int (zI v10)), (0, .ref (ad o)), (1, .int (zI x1)), (2, .int (zI x2))]) hx hb dX0_canResize_43 rfl hl (by decide) rfl (fun ls hl => ?_)
            refine lv_iload_n hx hb dX0_canResize_44 rfl (lv_at hl 0 rfl) ?_
            refine lv_iload_n hx hb dX0_canResize_45 rfl (lv_at hl 2 rfl) ?_
            refine lz_imul hx hb dX0_canResize_46 ?_
            refine lv_bipush (v := zI 100) hx hb dX0_canResize_47 (by decide +kernel) ?_
            obtain ⟨k11, hf⟩ := zck_some hf
            refine lz_idiv hx hb ⟨⟨k11, by decide⟩, by decide⟩ dX0_canResize_49 ?_
            refine lv_bipush (v := zI 32) hx hb dX0_canResize_50 (by decide +kernel) ?_
            obtain ⟨k12, hf⟩ := zck_some hf
            refine lz_icmp_lt (tgt := 57) hx hb ⟨k12, by decide⟩ dX0_canResize_52 (by decide) (fun c13 => ?_) (fun c13 => ?_)
            · replace hf := (if_pos c13).symm.trans hf
              refine lz_iinc (lv' := [(2, .int (zI (x2 + 1))), (3, .int (zI v10)), (0, .ref (ad o)), (1, .int (zI x1))]) hx hb dX0_canResize_57 hl (j := 3) rfl (by decide) rfl (fun ls hl => ?_)
              refine lv_goto (tgt := 2) hx hb dX0_canResize_60 (by decide) ?_
              cases hf
              exact ih (x2 + 1) _ hnx _ _ _ hH h_fd h_fd_cornerXs h_fd_cornerYs hbg _ (lv_sub hl [2, 3, 0] rfl) kx kr
            · replace hf := (if_neg c13).symm.trans hf
              refine lv_iconst (v := zI 0) hx hb dX0_canResize_55 (by decide +kernel) ?_
              cases hf
              replace hf := kr _ hnx.symm
              cases hf
              exact zretz hx hb hr hlocks hQ hH ⟨rfl, hbg⟩ (z_nar _ (Or.inl rfl)) dX0_canResize_56
  unfold f_X0_canResize at hf
  refine lv_iconst (v := zI 0) hx hb dX0_canResize_0 (by decide +kernel) ?_
  refine lv_istore_n (lv' := [(2, .int (zI 0)), (0, .ref (ad o)), (1, .int (zI p1))]) hx hb dX0_canResize_1 rfl hl (by decide) rfl (fun ls hl => ?_)
  obtain ⟨x17, k14, hf⟩ := zbs_some hf
  refine L2 fd_cornerXs fd_cornerYs fd_cornerCount p1 fd_colour fd_layer fd_column fd_crossingCount fd_density fd_length fd_shift fd_pull fd_underlay fd_drawn zFU 0 x17 k14 _ _ _ hH h_fd h_fd_cornerXs h_fd_cornerYs hbg _ (lv_sub hl [1, 2, 0] rfl) (fun w15 hres σ16 Hσ16 lσ16 hH h_fd h_fd_cornerXs h_fd_cornerYs hbg ls hl => ?_) (fun b hres => ?_)
  rotate_left
  · rw [hres] at hf; exact hf
  rw [hres] at hf
  replace hf := show _ = _ from hf
  simp only [zsel] at hf
  refine lv_iconst (v := zI 1) hx hb dX0_canResize_63 (by decide +kernel) ?_
  cases hf
  exact zretz hx hb hr hlocks hQ hH ⟨rfl, hbg⟩ (z_nar _ (Or.inr rfl)) dX0_canResize_64
