abbrev rmX6_isWithin : Room := { frames := 0, cells := 0, slots := 0, locals := 0 }
theorem hd_X6_isWithin : yX6_isWithin.cls ≠ "java/lang/invoke/MethodHandle" ∧ yX6_isWithin.cls ≠ "java/lang/invoke/VarHandle" ∧ (parseMethodDescriptor yX6_isWithin.desc).map (fun d => d.parameters.length) = some 3 := by decide +kernel
set_option maxHeartbeats 4000000 in
set_option maxRecDepth 100000 in
theorem c_X6_isWithin {l : Launch} {D : va_G} {cI cZ cF cL cD : ClassId} {ad : Nat → Nat} {N : Nat} (hI : ∀ i j, i < N → j < N → ad i = ad j → i = j) (hN : 19 ≤ N) {σ0 : Nat → va_E} {sz : Nat} {p0 : Int} {p1 : Int} {p2 : Int} {R0 : Int}  (hf : f_X6_isWithin p0 p1 p2 = some R0) :
    Met l yX6_isWithin (Cond.code yX6_isWithin cX6_isWithin 3 (some .boolean) :: wsL_law) rmX6_isWithin (zPre D ad N (zT cI cZ cF cL cD) σ0 sz [.int (zI p0), .int (zI p1), .int (zI p2)]) (zQi D ad N sz (fun r σ' => r = zI R0 ∧ σ' = σ0)) 0 0 (zFr ad N sz) := by
  refine zMet hI (plainFor_of_name (by decide)) (Nat.le_of_ble_eq_true rfl) ⟨rfl, rfl⟩ ?_
  intro p e s m args below meth c Q hx hb hr hlocks hml hown hts hK hsz hQ hH hA ls hl
  subst hsz
  have hl : lv_has ls 3 [(0, .int (zI p0)), (1, .int (zI p1)), (2, .int (zI p2))] := hl
  have hbg : σ0 = σ0 := rfl
  unfold f_X6_isWithin at hf
  refine lv_iload_n hx hb dX6_isWithin_0 rfl (lv_at hl 0 rfl) ?_
  refine lv_iload_n hx hb dX6_isWithin_1 rfl (lv_at hl 1 rfl) ?_
  obtain ⟨k1, hf⟩ := zck_some hf
  refine lz_icmp_lt (tgt := 14) hx hb k1 dX6_isWithin_2 (by decide) (fun c2 => ?_) (fun c2 => ?_)
  · replace hf := (if_pos c2).symm.trans hf
    refine lv_iconst (v := zI 0) hx hb dX6_isWithin_14 (by decide +kernel) ?_
    cases hf
    exact zretz hx hb hr hlocks hQ hH ⟨rfl, hbg⟩ (z_nar _ (Or.inl rfl)) dX6_isWithin_15
  · replace hf := (if_neg c2).symm.trans hf
    refine lv_iload_n hx hb dX6_isWithin_5 rfl (lv_at hl 0 rfl) ?_
    refine lv_iload_n hx hb dX6_isWithin_6 rfl (lv_at hl 2 rfl) ?_
    obtain ⟨k3, hf⟩ := zck_some hf
    refine lz_icmp_gt (tgt := 14) hx hb k3 dX6_isWithin_7 (by decide) (fun c4 => ?_) (fun c4 => ?_)
    · replace hf := (if_pos c4).symm.trans hf
      refine lv_iconst (v := zI 0) hx hb dX6_isWithin_14 (by decide +kernel) ?_
      cases hf
      exact zretz hx hb hr hlocks hQ hH ⟨rfl, hbg⟩ (z_nar _ (Or.inl rfl)) dX6_isWithin_15
    · replace hf := (if_neg c4).symm.trans hf
      refine lv_iconst (v := zI 1) hx hb dX6_isWithin_10 (by decide +kernel) ?_
      refine lv_goto (tgt := 15) hx hb dX6_isWithin_11 (by decide) ?_
      cases hf
      exact zretz hx hb hr hlocks hQ hH ⟨rfl, hbg⟩ (z_nar _ (Or.inr rfl)) dX6_isWithin_15
abbrev rmX6_placeOf : Room := { frames := 1, cells := 0, slots := 0, locals := 22 }
theorem hd_X6_placeOf : yX6_placeOf.cls ≠ "java/lang/invoke/MethodHandle" ∧ yX6_placeOf.cls ≠ "java/lang/invoke/VarHandle" ∧ (parseMethodDescriptor yX6_placeOf.desc).map (fun d => d.parameters.length) = some 4 := by decide +kernel
set_option maxHeartbeats 4000000 in
set_option maxRecDepth 100000 in
theorem c_X6_placeOf {l : Launch} {D : va_G} {cI cZ cF cL cD : ClassId} {ad : Nat → Nat} {N : Nat} (hI : ∀ i j, i < N → j < N → ad i = ad j → i = j) (hN : 19 ≤ N) {σ0 : Nat → va_E} {sz : Nat} {p0 : Int} {p1 : Int} {p2 : Int} {p3 : Int} {R0 : Int}  (hf : f_X6_placeOf p0 p1 p2 p3 = some R0) :
    Met l yX6_placeOf (Cond.code yX6_placeOf cX6_placeOf 4 (some .int) :: wsL_law) rmX6_placeOf (zPre D ad N (zT cI cZ cF cL cD) σ0 sz [.int (zI p0), .int (zI p1), .int (zI p2), .int (zI p3)]) (zQi D ad N sz (fun r σ' => r = zI R0 ∧ σ' = σ0)) 0 0 (zFr ad N sz) := by
  refine zMet hI (plainFor_of_name (by decide)) (Nat.le_of_ble_eq_true rfl) ⟨rfl, rfl⟩ ?_
  intro p e s m args below meth c Q hx hb hr hlocks hml hown hts hK hsz hQ hH hA ls hl
  subst hsz
  have hl : lv_has ls 4 [(0, .int (zI p0)), (1, .int (zI p1)), (2, .int (zI p2)), (3, .int (zI p3))] := hl
  have hbg : σ0 = σ0 := rfl
  unfold f_X6_placeOf at hf
  refine lv_iload_n hx hb dX6_placeOf_0 rfl (lv_at hl 3 rfl) ?_
  obtain ⟨k1, hf⟩ := zck_some hf
  refine lz_if_gt (tgt := 8) hx hb k1 dX6_placeOf_1 (by decide) (fun c2 => ?_) (fun c2 => ?_)
  · replace hf := (if_pos c2).symm.trans hf
    refine lv_iload_n hx hb dX6_placeOf_8 rfl (lv_at hl 0 rfl) ?_
    refine lv_iload_n hx hb dX6_placeOf_9 rfl (lv_at hl 1 rfl) ?_
    refine lv_iload_n hx hb dX6_placeOf_10 rfl (lv_at hl 0 rfl) ?_
    refine lz_isub hx hb dX6_placeOf_11 ?_
    refine lv_iload_n hx hb dX6_placeOf_12 rfl (lv_at hl 2 rfl) ?_
    refine lz_imul hx hb dX6_placeOf_13 ?_
    refine lv_iload_n hx hb dX6_placeOf_14 rfl (lv_at hl 3 rfl) ?_
    obtain ⟨r3, k4, hf⟩ := zb1_some hf
    refine zcSi (As := [.int (zI ((p1 - p0) * p2)), .int (zI p3)]) (rest := [.int (zI p0)]) hx hb hml hown hts hl.1 hK hH hA (c_J9_floorDiv_7cf53 hI hN   k4) zk_t1_219 zk_t1_220 zk_t1_6 zk_t1_221 hd_J9_floorDiv_7cf53 rfl ⟨rfl, rfl, Nat.le_of_ble_eq_true rfl, Nat.le_of_ble_eq_true rfl⟩ ⟨Nat.zero_le _, Nat.zero_le _⟩ rfl (Nat.le_of_ble_eq_true rfl) dX6_placeOf_15 (fun q6 σ5 Hσ5 lσ5 hp hH => ?_)
    obtain ⟨hr1, hs1⟩ := hp; subst hr1; rw [hs1] at hH
    refine lz_iadd hx hb dX6_placeOf_18 ?_
    cases hf
    exact zreti hx hb hr hlocks hQ hH ⟨rfl, hbg⟩ dX6_placeOf_19
  · replace hf := (if_neg c2).symm.trans hf
    refine lv_iload_n hx hb dX6_placeOf_4 rfl (lv_at hl 0 rfl) ?_
    refine lv_goto (tgt := 19) hx hb dX6_placeOf_5 (by decide) ?_
    cases hf
    exact zreti hx hb hr hlocks hQ hH ⟨rfl, hbg⟩ dX6_placeOf_19
abbrev rmX6_roundedUp : Room := { frames := 0, cells := 0, slots := 0, locals := 0 }
theorem hd_X6_roundedUp : yX6_roundedUp.cls ≠ "java/lang/invoke/MethodHandle" ∧ yX6_roundedUp.cls ≠ "java/lang/invoke/VarHandle" ∧ (parseMethodDescriptor yX6_roundedUp.desc).map (fun d => d.parameters.length) = some 2 := by decide +kernel
set_option maxHeartbeats 4000000 in
set_option maxRecDepth 100000 in
theorem c_X6_roundedUp {l : Launch} {D : va_G} {cI cZ cF cL cD : ClassId} {ad : Nat → Nat} {N : Nat} (hI : ∀ i j, i < N → j < N → ad i = ad j → i = j) (hN : 19 ≤ N) {σ0 : Nat → va_E} {sz : Nat} {p0 : Int} {p1 : Int} {R0 : Int}  (hf : f_X6_roundedUp p0 p1 = some R0) :
    Met l yX6_roundedUp (Cond.code yX6_roundedUp cX6_roundedUp 2 (some .int) :: wsL_law) rmX6_roundedUp (zPre D ad N (zT cI cZ cF cL cD) σ0 sz [.int (zI p0), .int (zI p1)]) (zQi D ad N sz (fun r σ' => r = zI R0 ∧ σ' = σ0)) 0 0 (zFr ad N sz) := by
  refine zMet hI (plainFor_of_name (by decide)) (Nat.le_of_ble_eq_true rfl) ⟨rfl, rfl⟩ ?_
  intro p e s m args below meth c Q hx hb hr hlocks hml hown hts hK hsz hQ hH hA ls hl
  subst hsz
  have hl : lv_has ls 2 [(0, .int (zI p0)), (1, .int (zI p1))] := hl
  have hbg : σ0 = σ0 := rfl
  unfold f_X6_roundedUp at hf
  refine lv_iload_n hx hb dX6_roundedUp_0 rfl (lv_at hl 1 rfl) ?_
  obtain ⟨k1, hf⟩ := zck_some hf
  refine lz_if_gt (tgt := 8) hx hb k1 dX6_roundedUp_1 (by decide) (fun c2 => ?_) (fun c2 => ?_)
  · replace hf := (if_pos c2).symm.trans hf
    refine lv_iload_n hx hb dX6_roundedUp_8 rfl (lv_at hl 0 rfl) ?_
    refine lv_iload_n hx hb dX6_roundedUp_9 rfl (lv_at hl 1 rfl) ?_
    refine lz_iadd hx hb dX6_roundedUp_10 ?_
    refine lv_iconst (v := zI 1) hx hb dX6_roundedUp_11 (by decide +kernel) ?_
    refine lz_isub hx hb dX6_roundedUp_12 ?_
    refine lv_iload_n hx hb dX6_roundedUp_13 rfl (lv_at hl 1 rfl) ?_
    obtain ⟨k3, hf⟩ := zck_some hf
    refine lz_idiv hx hb k3 dX6_roundedUp_14 ?_
    cases hf
    exact zreti hx hb hr hlocks hQ hH ⟨rfl, hbg⟩ dX6_roundedUp_15
  · replace hf := (if_neg c2).symm.trans hf
    refine lv_iconst (v := zI 0) hx hb dX6_roundedUp_4 (by decide +kernel) ?_
    refine lv_goto (tgt := 15) hx hb dX6_roundedUp_5 (by decide) ?_
    cases hf
    exact zreti hx hb hr hlocks hQ hH ⟨rfl, hbg⟩ dX6_roundedUp_15
abbrev rmX6_greaterDifference : Room := { frames := 1, cells := 0, slots := 0, locals := 21 }
theorem hd_X6_greaterDifference : yX6_greaterDifference.cls ≠ "java/lang/invoke/MethodHandle" ∧ yX6_greaterDifference.cls ≠ "java/lang/invoke/VarHandle" ∧ (parseMethodDescriptor yX6_greaterDifference.desc).map (fun d => d.parameters.length) = some 2 := by decide +kernel
set_option maxHeartbeats 4000000 in
set_option maxRecDepth 100000 in
theorem c_X6_greaterDifference {l : Launch} {D : va_G} {cI cZ cF cL cD : ClassId} {ad : Nat → Nat} {N : Nat} (hI : ∀ i j, i < N → j < N → ad i = ad j → i = j) (hN : 19 ≤ N) {σ0 : Nat → va_E} {sz : Nat} {p0 : Int} {p1 : Int} {R0 : Int}  (hf : f_X6_greaterDifference p0 p1 = some R0) :
    Met l yX6_greaterDifference (Cond.code yX6_greaterDifference cX6_greaterDifference 2 (some .int) :: wsL_law) rmX6_greaterDifference (zPre D ad N (zT cI cZ cF cL cD) σ0 sz [.int (zI p0), .int (zI p1)]) (zQi D ad N sz (fun r σ' => r = zI R0 ∧ σ' = σ0)) 0 0 (zFr ad N sz) := by
  refine zMet hI (plainFor_of_name (by decide)) (Nat.le_of_ble_eq_true rfl) ⟨rfl, rfl⟩ ?_
  intro p e s m args below meth c Q hx hb hr hlocks hml hown hts hK hsz hQ hH hA ls hl
  subst hsz
  have hl : lv_has ls 2 [(0, .int (zI p0)), (1, .int (zI p1))] := hl
  have hbg : σ0 = σ0 := rfl
  unfold f_X6_greaterDifference at hf
  refine lv_iload_n hx hb dX6_greaterDifference_0 rfl (lv_at hl 0 rfl) ?_
  obtain ⟨k1, hf⟩ := zck_some hf
  refine lz_mabs hx hb (hml.trans hl.1.symm) hown hts zk_t1_209 zk_t1_210 zk_t1_6 zk_t1_211 ⟨Nat.le_of_ble_eq_true rfl, Nat.le_of_ble_eq_true rfl⟩ ⟨Nat.zero_le _, Nat.zero_le _⟩ k1 dX6_greaterDifference_1 ?_
  refine lv_iload_n hx hb dX6_greaterDifference_4 rfl (lv_at hl 1 rfl) ?_
  obtain ⟨k2, hf⟩ := zck_some hf
  refine lz_mabs hx hb (hml.trans hl.1.symm) hown hts zk_t1_209 zk_t1_210 zk_t1_6 zk_t1_211 ⟨Nat.le_of_ble_eq_true rfl, Nat.le_of_ble_eq_true rfl⟩ ⟨Nat.zero_le _, Nat.zero_le _⟩ k2 dX6_greaterDifference_5 ?_
  obtain ⟨k3, hf⟩ := zck_some hf
  refine lz_mmax hx hb (hml.trans hl.1.symm) hown hts zk_t1_212 zk_t1_213 zk_t1_6 zk_t1_214 ⟨Nat.le_of_ble_eq_true rfl, Nat.le_of_ble_eq_true rfl⟩ ⟨Nat.zero_le _, Nat.zero_le _⟩ k3 dX6_greaterDifference_8 ?_
  cases hf
  exact zreti hx hb hr hlocks hQ hH ⟨rfl, hbg⟩ dX6_greaterDifference_11
abbrev rmX6_wholeRoot : Room := { frames := 0, cells := 0, slots := 0, locals := 0 }
theorem hd_X6_wholeRoot : yX6_wholeRoot.cls ≠ "java/lang/invoke/MethodHandle" ∧ yX6_wholeRoot.cls ≠ "java/lang/invoke/VarHandle" ∧ (parseMethodDescriptor yX6_wholeRoot.desc).map (fun d => d.parameters.length) = some 1 := by decide +kernel
set_option maxHeartbeats 4000000 in
set_option maxRecDepth 100000 in
theorem c_X6_wholeRoot {l : Launch} {D : va_G} {cI cZ cF cL cD : ClassId} {ad : Nat → Nat} {N : Nat} (hI : ∀ i j, i < N → j < N → ad i = ad j → i = j) (hN : 19 ≤ N) {σ0 : Nat → va_E} {sz : Nat} {p0 : Int} {R0 : Int}  (hf : f_X6_wholeRoot p0 = some R0) :
    Met l yX6_wholeRoot (Cond.code yX6_wholeRoot cX6_wholeRoot 4 (some .int) :: wsL_law) rmX6_wholeRoot (zPre D ad N (zT cI cZ cF cL cD) σ0 sz [.int (zI p0)]) (zQi D ad N sz (fun r σ' => r = zI R0 ∧ σ' = σ0)) 0 0 (zFr ad N sz) := by
  refine zMet hI (plainFor_of_name (by decide)) (Nat.le_of_ble_eq_true rfl) ⟨rfl, rfl⟩ ?_
  intro p e s m args below meth c Q hx hb hr hlocks hml hown hts hK hsz hQ hH hA ls hl
  subst hsz
  have hl : lv_has ls 4 [(0, .int (zI p0))] := hl
  have hbg : σ0 = σ0 := rfl
  have L6 : ∀ (x0 : Int)  (n : Nat) (x1 : Int) (x2 : Int) (x1' : Int) (x2' : Int), zlp (fun z => f_X6_wholeRoot_L6 x0 z.1 z.2) n (x1, x2) = some (x1', x2') → ∀ (σ : Nat → va_E) (H : Heap) (locs : List Loc) (hH : zH D ad N (zFr ad N s.heap.size) s.heap σ H locs)  (hbg : σ = σ0) (ls : Array Slot) (hl : lv_has ls 4 [(0, .int (zI x0)), (1, .int (zI x1)), (2, .int (zI x2))]), (∀ (σ : Nat → va_E) (H : Heap) (locs : List Loc) (hH : zH D ad N (zFr ad N s.heap.size) s.heap σ H locs)  (hbg : σ = σ0) (ls : Array Slot) (hl : lv_has ls 4 [(1, .int (zI (x1')))]), W p l e rmX6_wholeRoot s m args below meth c H locs 0 0 Q (F0 m 30 ls [])) → W p l e rmX6_wholeRoot s m args below meth c H locs 0 0 Q (F0 m 6 ls []) := by
    intro x0 n
    induction n with
    | zero => intro x1 x2 x1' x2' hz; exact (zlp_0 hz).elim
    | succ n ih =>
      intro x1 x2 x1' x2' hz σ H locs hH  hbg ls hl kx
      obtain ⟨nx, hf, hnx⟩ := zlp_some hz
      have hf : f_X6_wholeRoot_L6 x0 x1 x2 = some nx := hf
      unfold f_X6_wholeRoot_L6 at hf
      refine lv_iload_n hx hb dX6_wholeRoot_6 rfl (lv_at hl 2 rfl) ?_
      obtain ⟨k1, hf⟩ := zck_some hf
      refine lz_if_le (tgt := 30) hx hb k1 dX6_wholeRoot_7 (by decide) (fun c2 => ?_) (fun c2 => ?_)
      · replace hf := (if_pos c2).symm.trans hf
        cases hf
        cases hnx
        exact kx _ _ _ hH hbg _ (lv_sub hl [1] rfl)
      · replace hf := (if_neg c2).symm.trans hf
        refine lv_iload_n hx hb dX6_wholeRoot_10 rfl (lv_at hl 1 rfl) ?_
        refine lv_iload_n hx hb dX6_wholeRoot_11 rfl (lv_at hl 2 rfl) ?_
        refine lz_iadd hx hb dX6_wholeRoot_12 ?_
        obtain ⟨v3, ev3, hf⟩ := zlt_some hf
        refine lz_nm ev3 ?_
        refine lv_istore_n (lv' := [(3, .int (zI v3)), (0, .int (zI x0)), (1, .int (zI x1)), (2, .int (zI x2))]) hx hb dX6_wholeRoot_13 rfl hl (by decide) rfl (fun ls hl => ?_)
        refine lv_iload_n hx hb dX6_wholeRoot_14 rfl (lv_at hl 0 rfl) ?_
        refine lv_iload_n hx hb dX6_wholeRoot_15 rfl (lv_at hl 0 rfl) ?_
        refine lz_imul hx hb dX6_wholeRoot_16 ?_
        refine lv_iload_n hx hb dX6_wholeRoot_17 rfl (lv_at hl 1 rfl) ?_
        obtain ⟨k4, hf⟩ := zck_some hf
        refine lz_icmp_gt (tgt := 23) hx hb k4 dX6_wholeRoot_18 (by decide) (fun c5 => ?_) (fun c5 => ?_)
        · replace hf := (if_pos c5).symm.trans hf
          refine lv_iload_n hx hb dX6_wholeRoot_23 rfl (lv_at hl 3 rfl) ?_
          refine lv_iconst (v := zI 1) hx hb dX6_wholeRoot_24 (by decide +kernel) ?_
          obtain ⟨k6, hf⟩ := zck_some hf
          refine lz_shr1 hx hb k6 dX6_wholeRoot_25 ?_
          obtain ⟨v7, ev7, hf⟩ := zlt_some hf
          refine lz_nm ev7 ?_
          refine lv_istore_n (lv' := [(2, .int (zI v7)), (3, .int (zI v3)), (0, .int (zI x0)), (1, .int (zI x1))]) hx hb dX6_wholeRoot_26 rfl hl (by decide) rfl (fun ls hl => ?_)
          refine lv_goto (tgt := 6) hx hb dX6_wholeRoot_27 (by decide) ?_
          cases hf
          exact ih x1 v7 _ _ hnx _ _ _ hH hbg _ (lv_sub hl [2, 3, 0] rfl) kx
        · replace hf := (if_neg c5).symm.trans hf
          refine lv_iload_n hx hb dX6_wholeRoot_21 rfl (lv_at hl 0 rfl) ?_
          refine lv_istore_n (lv' := [(1, .int (zI v3)), (3, .int (zI v3)), (0, .int (zI x0)), (2, .int (zI x2))]) hx hb dX6_wholeRoot_22 rfl hl (by decide) rfl (fun ls hl => ?_)
          refine lv_iload_n hx hb dX6_wholeRoot_23 rfl (lv_at hl 3 rfl) ?_
          refine lv_iconst (v := zI 1) hx hb dX6_wholeRoot_24 (by decide +kernel) ?_
          obtain ⟨k8, hf⟩ := zck_some hf
          refine lz_shr1 hx hb k8 dX6_wholeRoot_25 ?_
          obtain ⟨v9, ev9, hf⟩ := zlt_some hf
          refine lz_nm ev9 ?_
          refine lv_istore_n (lv' := [(2, .int (zI v9)), (1, .int (zI v3)), (3, .int (zI v3)), (0, .int (zI x0))]) hx hb dX6_wholeRoot_26 rfl hl (by decide) rfl (fun ls hl => ?_)
          refine lv_goto (tgt := 6) hx hb dX6_wholeRoot_27 (by decide) ?_
          cases hf
          exact ih v3 v9 _ _ hnx _ _ _ hH hbg _ (lv_sub hl [3, 1, 0] rfl) kx
  unfold f_X6_wholeRoot at hf
  refine lv_iconst (v := zI 0) hx hb dX6_wholeRoot_0 (by decide +kernel) ?_
  refine lv_istore_n (lv' := [(1, .int (zI 0)), (0, .int (zI p0))]) hx hb dX6_wholeRoot_1 rfl hl (by decide) rfl (fun ls hl => ?_)
  refine lv_sipush (v := zI 128) hx hb dX6_wholeRoot_2 (by decide +kernel) ?_
  refine lv_istore_n (lv' := [(2, .int (zI 128)), (1, .int (zI 0)), (0, .int (zI p0))]) hx hb dX6_wholeRoot_5 rfl hl (by decide) rfl (fun ls hl => ?_)
  obtain ⟨w11, w12, k10, hf⟩ := zb2_some hf
  refine L6 p0 zFU 0 128 w11 w12 k10 _ _ _ hH hbg _ (lv_sub hl [2, 1, 0] rfl) (fun σ13 Hσ13 lσ13 hH  hbg ls hl => ?_)
  refine lv_iload_n hx hb dX6_wholeRoot_30 rfl (lv_at hl 0 rfl) ?_
  cases hf
  exact zreti hx hb hr hlocks hQ hH ⟨rfl, hbg⟩ dX6_wholeRoot_31
abbrev rmX0_isFull : Room := { frames := 0, cells := 0, slots := 0, locals := 0 }
theorem hd_X0_isFull : yX0_isFull.cls = RX0 ∧ yX0_isFull.cls ≠ "java/lang/invoke/MethodHandle" ∧ yX0_isFull.cls ≠ "java/lang/invoke/VarHandle" ∧ (parseMethodDescriptor yX0_isFull.desc).map (fun d => d.parameters.length) = some 0 := by decide +kernel
set_option maxHeartbeats 4000000 in
set_option maxRecDepth 100000 in
theorem c_X0_isFull {l : Launch} {D : va_G} {cI cZ cF cL cD : ClassId} {ad : Nat → Nat} {N : Nat} (hI : ∀ i j, i < N → j < N → ad i = ad j → i = j) (hN : 19 ≤ N) {o : Nat} (ho : 19 ≤ o ∧ o + 7 ≤ N) {σ0 : Nat → va_E} {sz : Nat} {fd_colour : Int} {fd_layer : Int} {fd_column : Int} {fd_cornerCount : Int} {fd_crossingCount : Int} {fd_density : Int} {fd_length : Int} {fd_shift : Int} {fd_pull : Int} {fd_underlay : Int} {fd_drawn : Int} {R0 : Int} (h_fd : σ0 o = oC_fd ad o fd_colour fd_layer fd_column fd_cornerCount fd_crossingCount fd_density fd_length fd_shift fd_pull fd_underlay fd_drawn) (hf : f_X0_isFull fd_column fd_cornerCount = some R0) :
    Met l yX0_isFull (Cond.code yX0_isFull cX0_isFull 1 (some .boolean) :: wsL_law) rmX0_isFull (zPre D ad N (zT cI cZ cF cL cD) σ0 sz [.ref (ad o)]) (zQi D ad N sz (fun r σ' => r = zI R0 ∧ σ' = σ0)) 0 0 (zFr ad N sz) := by
  refine zMet hI (plainFor_of_name (by decide)) (Nat.le_of_ble_eq_true rfl) ⟨rfl, rfl⟩ ?_
  intro p e s m args below meth c Q hx hb hr hlocks hml hown hts hK hsz hQ hH hA ls hl
  subst hsz
  have hk_fd : o < N := by omega
  have hl : lv_has ls 1 [(0, .ref (ad o))] := hl
  have hbg : σ0 = σ0 := rfl
  have J17 : ∀ (s0 : Int) (s1 : Int) (σ : Nat → va_E) (H : Heap) (locs : List Loc) (hH : zH D ad N (zFr ad N s.heap.size) s.heap σ H locs) (h_fd : σ o = oC_fd ad o fd_colour fd_layer fd_column fd_cornerCount fd_crossingCount fd_density fd_length fd_shift fd_pull fd_underlay fd_drawn) (hbg : σ = σ0) (ls : Array Slot) (hl : lv_has ls 1 []), f_X0_isFull_17 fd_column fd_cornerCount s0 s1 = some R0 → W p l e rmX0_isFull s m args below meth c H locs 0 0 Q (F0 m 17 ls [.int (zI s1), .int (zI s0)]) := by
    intro s0 s1 σ H locs hH h_fd hbg ls hl hf
    unfold f_X0_isFull_17 at hf
    obtain ⟨k1, hf⟩ := zck_some hf
    refine lz_icmp_lt (tgt := 24) hx hb k1 dX0_isFull_17 (by decide) (fun c2 => ?_) (fun c2 => ?_)
    · replace hf := (if_pos c2).symm.trans hf
      refine lv_iconst (v := zI 0) hx hb dX0_isFull_24 (by decide +kernel) ?_
      cases hf
      exact zretz hx hb hr hlocks hQ hH ⟨rfl, hbg⟩ (z_nar _ (Or.inl rfl)) dX0_isFull_25
    · replace hf := (if_neg c2).symm.trans hf
      refine lv_iconst (v := zI 1) hx hb dX0_isFull_20 (by decide +kernel) ?_
      refine lv_goto (tgt := 25) hx hb dX0_isFull_21 (by decide) ?_
      cases hf
      exact zretz hx hb hr hlocks hQ hH ⟨rfl, hbg⟩ (z_nar _ (Or.inr rfl)) dX0_isFull_25
  unfold f_X0_isFull at hf
  refine lv_aload_n hx hb dX0_isFull_0 rfl (lv_at hl 0 rfl) ?_
  refine zget hx hb inlX0 rfl 7 rfl zk_t3_103 hts hown hK hH hk_fd h_fd rfl dX0_isFull_1 ?_
  refine lv_aload_n hx hb dX0_isFull_4 rfl (lv_at hl 0 rfl) ?_
  refine zget hx hb inlX0 rfl 2 rfl zk_t3_95 hts hown hK hH hk_fd h_fd rfl dX0_isFull_5 ?_
  obtain ⟨k3, hf⟩ := zck_some hf
  refine lz_if_eq (tgt := 15) hx hb k3 dX0_isFull_8 (by decide) (fun c4 => ?_) (fun c4 => ?_)
  · replace hf := (if_pos c4).symm.trans hf
    refine lv_bipush (v := zI 8) hx hb dX0_isFull_15 (by decide +kernel) ?_
    exact J17 fd_cornerCount 8 _ _ _ hH h_fd hbg _ (lv_sub hl [] rfl) hf
  · replace hf := (if_neg c4).symm.trans hf
    refine lv_iconst (v := zI 4) hx hb dX0_isFull_11 (by decide +kernel) ?_
    refine lv_goto (tgt := 17) hx hb dX0_isFull_12 (by decide) ?_
    exact J17 fd_cornerCount 4 _ _ _ hH h_fd hbg _ (lv_sub hl [] rfl) hf
abbrev rmX0_putCorner : Room := { frames := 0, cells := 0, slots := 0, locals := 0 }
theorem hd_X0_putCorner : yX0_putCorner.cls = RX0 ∧ yX0_putCorner.cls ≠ "java/lang/invoke/MethodHandle" ∧ yX0_putCorner.cls ≠ "java/lang/invoke/VarHandle" ∧ (parseMethodDescriptor yX0_putCorner.desc).map (fun d => d.parameters.length) = some 2 := by decide +kernel
set_option maxHeartbeats 4000000 in
set_option maxRecDepth 100000 in
theorem c_X0_putCorner {l : Launch} {D : va_G} {cI cZ cF cL cD : ClassId} {ad : Nat → Nat} {N : Nat} (hI : ∀ i j, i < N → j < N → ad i = ad j → i = j) (hN : 19 ≤ N) {o : Nat} (ho : 19 ≤ o ∧ o + 7 ≤ N) {σ0 : Nat → va_E} {sz : Nat} {fd_colour : Int} {fd_layer : Int} {fd_column : Int} {fd_cornerXs : Int → Int} {fd_cornerYs : Int → Int} {fd_cornerCount : Int} {fd_crossingCount : Int} {fd_density : Int} {fd_length : Int} {fd_shift : Int} {fd_pull : Int} {fd_underlay : Int} {fd_drawn : Int} {p1 : Int} {p2 : Int} {R_fd_cornerXs : Int → Int} {R_fd_cornerYs : Int → Int} {R_fd_cornerCount : Int} {R_fd_drawn : Int} (h_fd : σ0 o = oC_fd ad o fd_colour fd_layer fd_column fd_cornerCount fd_crossingCount fd_density fd_length fd_shift fd_pull fd_underlay fd_drawn) (h_fd_cornerXs : σ0 (o + 1) = .inl (cI, 8, .inl (zA fd_cornerXs))) (h_fd_cornerYs : σ0 (o + 2) = .inl (cI, 8, .inl (zA fd_cornerYs))) (hf : f_X0_putCorner fd_cornerXs fd_cornerYs fd_cornerCount fd_drawn p1 p2 = some (R_fd_cornerXs, R_fd_cornerYs, R_fd_cornerCount, R_fd_drawn)) :
    Met l yX0_putCorner (Cond.code yX0_putCorner cX0_putCorner 4 none :: wsL_law) rmX0_putCorner (zPre D ad N (zT cI cZ cF cL cD) σ0 sz [.ref (ad o), .int (zI p1), .int (zI p2)]) (zQv D ad N sz (fun σ' => σ' o = oC_fd ad o fd_colour fd_layer fd_column R_fd_cornerCount fd_crossingCount fd_density fd_length fd_shift fd_pull fd_underlay R_fd_drawn ∧ σ' (o + 1) = .inl (cI, 8, .inl (zA R_fd_cornerXs)) ∧ σ' (o + 2) = .inl (cI, 8, .inl (zA R_fd_cornerYs)) ∧ ∀ i : Nat, i ≠ o → i ≠ (o + 1) → i ≠ (o + 2) → σ' i = σ0 i)) 0 0 (zFr ad N sz) := by
  refine zMet hI (plainFor_of_name (by decide)) (Nat.le_of_ble_eq_true rfl) ⟨rfl, rfl⟩ ?_
  intro p e s m args below meth c Q hx hb hr hlocks hml hown hts hK hsz hQ hH hA ls hl
  subst hsz
  have hk_fd : o < N := by omega
  have hk_fd_cornerXs : (o + 1) < N := by omega
  have hk_fd_cornerYs : (o + 2) < N := by omega
  have hl : lv_has ls 4 [(0, .ref (ad o)), (1, .int (zI p1)), (2, .int (zI p2))] := hl
  have hbg : ∀ i : Nat, i ≠ o → i ≠ (o + 1) → i ≠ (o + 2) → σ0 i = σ0 i := fun _ _ _ _ => rfl
  have J44 : ∀ (fd_cornerXs : Int → Int) (fd_cornerYs : Int → Int) (fd_cornerCount : Int) (fd_drawn : Int) (σ : Nat → va_E) (H : Heap) (locs : List Loc) (hH : zH D ad N (zFr ad N s.heap.size) s.heap σ H locs) (h_fd : σ o = oC_fd ad o fd_colour fd_layer fd_column fd_cornerCount fd_crossingCount fd_density fd_length fd_shift fd_pull fd_underlay fd_drawn) (h_fd_cornerXs : σ (o + 1) = .inl (cI, 8, .inl (zA fd_cornerXs))) (h_fd_cornerYs : σ (o + 2) = .inl (cI, 8, .inl (zA fd_cornerYs))) (hbg : ∀ i : Nat, i ≠ o → i ≠ (o + 1) → i ≠ (o + 2) → σ i = σ0 i) (ls : Array Slot) (hl : lv_has ls 4 [(0, .ref (ad o))]), f_X0_putCorner_44 fd_cornerXs fd_cornerYs fd_cornerCount fd_drawn = some (R_fd_cornerXs, R_fd_cornerYs, R_fd_cornerCount, R_fd_drawn) → W p l e rmX0_putCorner s m args below meth c H locs 0 0 Q (F0 m 44 ls []) := by
    intro fd_cornerXs fd_cornerYs fd_cornerCount fd_drawn σ H locs hH h_fd h_fd_cornerXs h_fd_cornerYs hbg ls hl hf
    unfold f_X0_putCorner_44 at hf
    refine lv_aload_n hx hb dX0_putCorner_44 rfl (lv_at hl 0 rfl) ?_
    refine lv_iconst (v := zI 0) hx hb dX0_putCorner_45 (by decide +kernel) ?_
    refine zput hx hb inlX0 tyX0 tyX0_ok nmX0 rfl 14 rfl zk_t3_112 rfl hts hown hK hH hk_fd h_fd (z_nar _ (Or.inl rfl)) (z_fit _ (Or.inl rfl)) rfl dX0_putCorner_46 (fun σ1 Hσ1 lσ1 h_fd hn hH => ?_)
    have h_fd : σ1 o = oC_fd ad o fd_colour fd_layer fd_column fd_cornerCount fd_crossingCount fd_density fd_length fd_shift fd_pull fd_underlay 0 := h_fd
    have h_fd_cornerXs := (hn (o + 1) (by omega)).trans h_fd_cornerXs
    have h_fd_cornerYs := (hn (o + 2) (by omega)).trans h_fd_cornerYs
    have hbg : ∀ i : Nat, i ≠ o → i ≠ (o + 1) → i ≠ (o + 2) → σ1 i = σ0 i := fun i a0 a1 a2 => (hn i a0).trans (hbg i a0 a1 a2)
    cases hf
    exact zretv hx hb hr hlocks hQ hH ⟨h_fd, h_fd_cornerXs, h_fd_cornerYs, hbg⟩ dX0_putCorner_49
  unfold f_X0_putCorner at hf
  refine lv_aload_n hx hb dX0_putCorner_0 rfl (lv_at hl 0 rfl) ?_
  refine zget hx hb inlX0 rfl 7 rfl zk_t3_103 hts hown hK hH hk_fd h_fd rfl dX0_putCorner_1 ?_
  refine lv_istore_n (lv' := [(3, .int (zI fd_cornerCount)), (0, .ref (ad o)), (1, .int (zI p1)), (2, .int (zI p2))]) hx hb dX0_putCorner_4 rfl hl (by decide) rfl (fun ls hl => ?_)
  refine lv_iload_n hx hb dX0_putCorner_5 rfl (lv_at hl 0 rfl) ?_
  refine lv_aload_n hx hb dX0_putCorner_6 rfl (lv_at hl 1 rfl) ?_
  refine zget hx hb inlX0 rfl 3 rfl zk_t3_97 hts hown hK hH hk_fd h_fd rfl dX0_putCorner_7 ?_
  refine zalen (z := 8) hx hb hK hH hk_fd_cornerXs 0 h_fd_cornerXs rfl (show Int32.ofNat 8 = zI 8 by decide +kernel) dX0_putCorner_10 ?_
  obtain ⟨k2, hf⟩ := zck_some hf
  refine lz_icmp_ge (tgt := 44) hx hb ⟨k2, by decide⟩ dX0_putCorner_11 (by decide) (fun c3 => ?_) (fun c3 => ?_)
  · replace hf := (if_pos c3).symm.trans hf
    exact J44 fd_cornerXs fd_cornerYs fd_cornerCount fd_drawn _ _ _ hH h_fd h_fd_cornerXs h_fd_cornerYs hbg _ (lv_sub hl [1] rfl) hf
  · replace hf := (if_neg c3).symm.trans hf
    refine lv_iload_n hx hb dX0_putCorner_14 rfl (lv_at hl 0 rfl) ?_
    refine lv_aload_n hx hb dX0_putCorner_15 rfl (lv_at hl 1 rfl) ?_
    refine zget hx hb inlX0 rfl 4 rfl zk_t3_98 hts hown hK hH hk_fd h_fd rfl dX0_putCorner_16 ?_
    refine zalen (z := 8) hx hb hK hH hk_fd_cornerYs 0 h_fd_cornerYs rfl (show Int32.ofNat 8 = zI 8 by decide +kernel) dX0_putCorner_19 ?_
    obtain ⟨k4, hf⟩ := zck_some hf
    refine lz_icmp_ge (tgt := 44) hx hb ⟨k4, by decide⟩ dX0_putCorner_20 (by decide) (fun c5 => ?_) (fun c5 => ?_)
    · replace hf := (if_pos c5).symm.trans hf
      exact J44 fd_cornerXs fd_cornerYs fd_cornerCount fd_drawn _ _ _ hH h_fd h_fd_cornerXs h_fd_cornerYs hbg _ (lv_sub hl [1] rfl) hf
    · replace hf := (if_neg c5).symm.trans hf
      refine lv_aload_n hx hb dX0_putCorner_23 rfl (lv_at hl 1 rfl) ?_
      refine zget hx hb inlX0 rfl 3 rfl zk_t3_97 hts hown hK hH hk_fd h_fd rfl dX0_putCorner_24 ?_
      refine lv_iload_n hx hb dX0_putCorner_27 rfl (lv_at hl 0 rfl) ?_
      refine lv_iload_n hx hb dX0_putCorner_28 rfl (lv_at hl 2 rfl) ?_
      obtain ⟨k6, hf⟩ := zck_some hf
      obtain ⟨a8, ea8, hf⟩ := zlt_some hf
      refine ziast hx hb hK hH hk_fd_cornerXs 0 h_fd_cornerXs rfl k6 rfl dX0_putCorner_29 (fun σ7 Hσ7 lσ7 h_fd_cornerXs hn hH => ?_)
      rw [← ea8] at h_fd_cornerXs
      have h_fd := (hn o (by omega)).trans h_fd
      have h_fd_cornerYs := (hn (o + 2) (by omega)).trans h_fd_cornerYs
      have hbg : ∀ i : Nat, i ≠ o → i ≠ (o + 1) → i ≠ (o + 2) → σ7 i = σ0 i := fun i a0 a1 a2 => (hn i a1).trans (hbg i a0 a1 a2)
      refine lv_aload_n hx hb dX0_putCorner_30 rfl (lv_at hl 1 rfl) ?_
      refine zget hx hb inlX0 rfl 4 rfl zk_t3_98 hts hown hK hH hk_fd h_fd rfl dX0_putCorner_31 ?_
      refine lv_iload_n hx hb dX0_putCorner_34 rfl (lv_at hl 0 rfl) ?_
      refine lv_iload_n hx hb dX0_putCorner_35 rfl (lv_at hl 3 rfl) ?_
      obtain ⟨k9, hf⟩ := zck_some hf
      obtain ⟨a11, ea11, hf⟩ := zlt_some hf
      refine ziast hx hb hK hH hk_fd_cornerYs 0 h_fd_cornerYs rfl k9 rfl dX0_putCorner_36 (fun σ10 Hσ10 lσ10 h_fd_cornerYs hn hH => ?_)
      rw [← ea11] at h_fd_cornerYs
      have h_fd := (hn o (by omega)).trans h_fd
      have h_fd_cornerXs := (hn (o + 1) (by omega)).trans h_fd_cornerXs
      have hbg : ∀ i : Nat, i ≠ o → i ≠ (o + 1) → i ≠ (o + 2) → σ10 i = σ0 i := fun i a0 a1 a2 => (hn i a2).trans (hbg i a0 a1 a2)
      refine lv_aload_n hx hb dX0_putCorner_37 rfl (lv_at hl 1 rfl) ?_
      refine lv_iload_n hx hb dX0_putCorner_38 rfl (lv_at hl 0 rfl) ?_
      refine lv_iconst (v := zI 1) hx hb dX0_putCorner_39 (by decide +kernel) ?_
      refine lz_iadd hx hb dX0_putCorner_40 ?_
      obtain ⟨v12, ev12, hf⟩ := zlt_some hf
      refine lz_nm ev12 ?_
      refine zput hx hb inlX0 tyX0 tyX0_ok nmX0 rfl 7 rfl zk_t3_103 rfl hts hown hK hH hk_fd h_fd rfl rfl rfl dX0_putCorner_41 (fun σ13 Hσ13 lσ13 h_fd hn hH => ?_)
      have h_fd : σ13 o = oC_fd ad o fd_colour fd_layer fd_column v12 fd_crossingCount fd_density fd_length fd_shift fd_pull fd_underlay fd_drawn := h_fd
      have h_fd_cornerXs := (hn (o + 1) (by omega)).trans h_fd_cornerXs
      have h_fd_cornerYs := (hn (o + 2) (by omega)).trans h_fd_cornerYs
      have hbg : ∀ i : Nat, i ≠ o → i ≠ (o + 1) → i ≠ (o + 2) → σ13 i = σ0 i := fun i a0 a1 a2 => (hn i a0).trans (hbg i a0 a1 a2)
      exact J44 a8 a11 v12 fd_drawn _ _ _ hH h_fd h_fd_cornerXs h_fd_cornerYs hbg _ (lv_sub hl [1] rfl) hf
abbrev rmX0_settle : Room := { frames := 0, cells := 0, slots := 0, locals := 0 }
theorem hd_X0_settle : yX0_settle.cls = RX0 ∧ yX0_settle.cls ≠ "java/lang/invoke/MethodHandle" ∧ yX0_settle.cls ≠ "java/lang/invoke/VarHandle" ∧ (parseMethodDescriptor yX0_settle.desc).map (fun d => d.parameters.length) = some 5 := by decide +kernel
set_option maxHeartbeats 4000000 in
set_option maxRecDepth 100000 in
theorem c_X0_settle {l : Launch} {D : va_G} {cI cZ cF cL cD : ClassId} {ad : Nat → Nat} {N : Nat} (hI : ∀ i j, i < N → j < N → ad i = ad j → i = j) (hN : 19 ≤ N) {o : Nat} (ho : 19 ≤ o ∧ o + 7 ≤ N) {σ0 : Nat → va_E} {sz : Nat} {fd_colour : Int} {fd_layer : Int} {fd_column : Int} {fd_cornerCount : Int} {fd_crossingCount : Int} {fd_density : Int} {fd_length : Int} {fd_shift : Int} {fd_pull : Int} {fd_underlay : Int} {fd_drawn : Int} {p1 : Int} {p2 : Int} {p3 : Int} {p4 : Int} {p5 : Int} {R_fd_density : Int} {R_fd_length : Int} {R_fd_shift : Int} {R_fd_pull : Int} {R_fd_underlay : Int} {R_fd_drawn : Int} (h_fd : σ0 o = oC_fd ad o fd_colour fd_layer fd_column fd_cornerCount fd_crossingCount fd_density fd_length fd_shift fd_pull fd_underlay fd_drawn) (hf : f_X0_settle fd_density fd_length fd_shift fd_pull fd_underlay fd_drawn p1 p2 p3 p4 p5 = some (R_fd_density, R_fd_length, R_fd_shift, R_fd_pull, R_fd_underlay, R_fd_drawn)) :
    Met l yX0_settle (Cond.code yX0_settle cX0_settle 6 none :: wsL_law) rmX0_settle (zPre D ad N (zT cI cZ cF cL cD) σ0 sz [.ref (ad o), .int (zI p1), .int (zI p2), .int (zI p3), .int (zI p4), .int (zI p5)]) (zQv D ad N sz (fun σ' => σ' o = oC_fd ad o fd_colour fd_layer fd_column fd_cornerCount fd_crossingCount R_fd_density R_fd_length R_fd_shift R_fd_pull R_fd_underlay R_fd_drawn ∧ ∀ i : Nat, i ≠ o → σ' i = σ0 i)) 0 0 (zFr ad N sz) := by
  refine zMet hI (plainFor_of_name (by decide)) (Nat.le_of_ble_eq_true rfl) ⟨rfl, rfl⟩ ?_
  intro p e s m args below meth c Q hx hb hr hlocks hml hown hts hK hsz hQ hH hA ls hl
  subst hsz
  have hk_fd : o < N := by omega
  have hl : lv_has ls 6 [(0, .ref (ad o)), (1, .int (zI p1)), (2, .int (zI p2)), (3, .int (zI p3)), (4, .int (zI p4)), (5, .int (zI p5))] := hl
  have hbg : ∀ i : Nat, i ≠ o → σ0 i = σ0 i := fun _ _ => rfl
  unfold f_X0_settle at hf
  refine lv_aload_n hx hb dX0_settle_0 rfl (lv_at hl 0 rfl) ?_
  refine lv_iload_n hx hb dX0_settle_1 rfl (lv_at hl 1 rfl) ?_
  refine zput hx hb inlX0 tyX0 tyX0_ok nmX0 rfl 9 rfl zk_t3_106 rfl hts hown hK hH hk_fd h_fd rfl rfl rfl dX0_settle_2 (fun σ1 Hσ1 lσ1 h_fd hn hH => ?_)
  have h_fd : σ1 o = oC_fd ad o fd_colour fd_layer fd_column fd_cornerCount fd_crossingCount p1 fd_length fd_shift fd_pull fd_underlay fd_drawn := h_fd
  have hbg : ∀ i : Nat, i ≠ o → σ1 i = σ0 i := fun i a0 => (hn i a0).trans (hbg i a0)
  refine lv_aload_n hx hb dX0_settle_5 rfl (lv_at hl 0 rfl) ?_
  refine lv_iload_n hx hb dX0_settle_6 rfl (lv_at hl 2 rfl) ?_
  refine zput hx hb inlX0 tyX0 tyX0_ok nmX0 rfl 10 rfl zk_t3_108 rfl hts hown hK hH hk_fd h_fd rfl rfl rfl dX0_settle_7 (fun σ2 Hσ2 lσ2 h_fd hn hH => ?_)
  have h_fd : σ2 o = oC_fd ad o fd_colour fd_layer fd_column fd_cornerCount fd_crossingCount p1 p2 fd_shift fd_pull fd_underlay fd_drawn := h_fd
  have hbg : ∀ i : Nat, i ≠ o → σ2 i = σ0 i := fun i a0 => (hn i a0).trans (hbg i a0)
  refine lv_aload_n hx hb dX0_settle_10 rfl (lv_at hl 0 rfl) ?_
  refine lv_iload_n hx hb dX0_settle_11 rfl (lv_at hl 3 rfl) ?_
  refine zput hx hb inlX0 tyX0 tyX0_ok nmX0 rfl 11 rfl zk_t3_109 rfl hts hown hK hH hk_fd h_fd rfl rfl rfl dX0_settle_12 (fun σ3 Hσ3 lσ3 h_fd hn hH => ?_)
  have h_fd : σ3 o = oC_fd ad o fd_colour fd_layer fd_column fd_cornerCount fd_crossingCount p1 p2 p3 fd_pull fd_underlay fd_drawn := h_fd
  have hbg : ∀ i : Nat, i ≠ o → σ3 i = σ0 i := fun i a0 => (hn i a0).trans (hbg i a0)
  refine lv_aload_n hx hb dX0_settle_15 rfl (lv_at hl 0 rfl) ?_
  refine lv_iload hx hb dX0_settle_16 (lv_at hl 4 rfl) ?_
  refine zput hx hb inlX0 tyX0 tyX0_ok nmX0 rfl 12 rfl zk_t3_110 rfl hts hown hK hH hk_fd h_fd rfl rfl rfl dX0_settle_18 (fun σ4 Hσ4 lσ4 h_fd hn hH => ?_)
  have h_fd : σ4 o = oC_fd ad o fd_colour fd_layer fd_column fd_cornerCount fd_crossingCount p1 p2 p3 p4 fd_underlay fd_drawn := h_fd
  have hbg : ∀ i : Nat, i ≠ o → σ4 i = σ0 i := fun i a0 => (hn i a0).trans (hbg i a0)
  refine lv_aload_n hx hb dX0_settle_21 rfl (lv_at hl 0 rfl) ?_
  refine lv_iload hx hb dX0_settle_22 (lv_at hl 5 rfl) ?_
  obtain ⟨k5, hf⟩ := zck_some hf
  refine zput hx hb inlX0 tyX0 tyX0_ok nmX0 rfl 13 rfl zk_t3_111 rfl hts hown hK hH hk_fd h_fd (z_nar _ k5) (z_fit _ k5) rfl dX0_settle_24 (fun σ6 Hσ6 lσ6 h_fd hn hH => ?_)
  have h_fd : σ6 o = oC_fd ad o fd_colour fd_layer fd_column fd_cornerCount fd_crossingCount p1 p2 p3 p4 p5 fd_drawn := h_fd
  have hbg : ∀ i : Nat, i ≠ o → σ6 i = σ0 i := fun i a0 => (hn i a0).trans (hbg i a0)
  refine lv_aload_n hx hb dX0_settle_27 rfl (lv_at hl 0 rfl) ?_
  refine lv_iconst (v := zI 0) hx hb dX0_settle_28 (by decide +kernel) ?_
  refine zput hx hb inlX0 tyX0 tyX0_ok nmX0 rfl 14 rfl zk_t3_112 rfl hts hown hK hH hk_fd h_fd (z_nar _ (Or.inl rfl)) (z_fit _ (Or.inl rfl)) rfl dX0_settle_29 (fun σ7 Hσ7 lσ7 h_fd hn hH => ?_)
  have h_fd : σ7 o = oC_fd ad o fd_colour fd_layer fd_column fd_cornerCount fd_crossingCount p1 p2 p3 p4 p5 0 := h_fd
  have hbg : ∀ i : Nat, i ≠ o → σ7 i = σ0 i := fun i a0 => (hn i a0).trans (hbg i a0)
  cases hf
  exact zretv hx hb hr hlocks hQ hH ⟨h_fd, hbg⟩ dX0_settle_32
abbrev rmX0_canResize : Room := { frames := 1, cells := 0, slots := 0, locals := 21 }
theorem hd_X0_canResize : yX0_canResize.cls = RX0 ∧ yX0_canResize.cls ≠ "java/lang/invoke/MethodHandle" ∧ yX0_canResize.cls ≠ "java/lang/invoke/VarHandle" ∧ (parseMethodDescriptor yX0_canResize.desc).map (fun d => d.parameters.length) = some 1 := by decide +kernel
set_option maxHeartbeats 4000000 in
set_option maxRecDepth 100000 in
theorem c_X0_canResize {l : Launch} {D : va_G} {cI cZ cF cL cD : ClassId} {ad : Nat → Nat} {N : Nat} (hI : ∀ i j, i < N → j < N → ad i = ad j → i = j) (hN : 19 ≤ N) {o : Nat} (ho : 19 ≤ o ∧ o + 7 ≤ N) {σ0 : Nat → va_E} {sz : Nat} {fd_colour : Int} {fd_layer : Int} {fd_column : Int} {fd_cornerXs : Int → Int} {fd_cornerYs : Int → Int} {fd_cornerCount : Int} {fd_crossingCount : Int} {fd_density : Int} {fd_length : Int} {fd_shift : Int} {fd_pull : Int} {fd_underlay : Int} {fd_drawn : Int} {p1 : Int} {R0 : Int} (h_fd : σ0 o = oC_fd ad o fd_colour fd_layer fd_column fd_cornerCount fd_crossingCount fd_density fd_length fd_shift fd_pull fd_underlay fd_drawn) (h_fd_cornerXs : σ0 (o + 1) = .inl (cI, 8, .inl (zA fd_cornerXs))) (h_fd_cornerYs : σ0 (o + 2) = .inl (cI, 8, .inl (zA fd_cornerYs))) (hf : f_X0_canResize fd_cornerXs fd_cornerYs fd_cornerCount p1 = some R0) :
    Met l yX0_canResize (Cond.code yX0_canResize cX0_canResize 4 (some .boolean) :: wsL_law) rmX0_canResize (zPre D ad N (zT cI cZ cF cL cD) σ0 sz [.ref (ad o), .int (zI p1)]) (zQi D ad N sz (fun r σ' => r = zI R0 ∧ σ' = σ0)) 0 0 (zFr ad N sz) := by
  refine zMet hI (plainFor_of_name (by decide)) (Nat.le_of_ble_eq_true rfl) ⟨rfl, rfl⟩ ?_
  intro p e s m args below meth c Q hx hb hr hlocks hml hown hts hK hsz hQ hH hA ls hl
  subst hsz
  have hk_fd : o < N := by omega
  have hk_fd_cornerXs : (o + 1) < N := by omega
  have hk_fd_cornerYs : (o + 2) < N := by omega
  have hl : lv_has ls 4 [(0, .ref (ad o)), (1, .int (zI p1))] := hl
  have hbg : σ0 = σ0 := rfl
  have L2 : ∀ (x1 : Int)  (n : Nat) (x2 : Int) (res : ((Int) ⊕ (Int))), zlp (fun z => f_X0_canResize_L2 fd_cornerXs fd_cornerYs fd_cornerCount x1 z) n x2 = some res → ∀ (σ : Nat → va_E) (H : Heap) (locs : List Loc) (hH : zH D ad N (zFr ad N s.heap.size) s.heap σ H locs) (h_fd : σ o = oC_fd ad o fd_colour fd_layer fd_column fd_cornerCount fd_crossingCount fd_density fd_length fd_shift fd_pull fd_underlay fd_drawn) (h_fd_cornerXs : σ (o + 1) = .inl (cI, 8, .inl (zA fd_cornerXs))) (h_fd_cornerYs : σ (o + 2) = .inl (cI, 8, .inl (zA fd_cornerYs))) (hbg : σ = σ0) (ls : Array Slot) (hl : lv_has ls 4 [(0, .ref (ad o)), (1, .int (zI x1)), (2, .int (zI x2))]), (∀ (x2' : Int), res = .inl x2' → ∀ (σ : Nat → va_E) (H : Heap) (locs : List Loc) (hH : zH D ad N (zFr ad N s.heap.size) s.heap σ H locs) (h_fd : σ o = oC_fd ad o fd_colour fd_layer fd_column fd_cornerCount fd_crossingCount fd_density fd_length fd_shift fd_pull fd_underlay fd_drawn) (h_fd_cornerXs : σ (o + 1) = .inl (cI, 8, .inl (zA fd_cornerXs))) (h_fd_cornerYs : σ (o + 2) = .inl (cI, 8, .inl (zA fd_cornerYs))) (hbg : σ = σ0) (ls : Array Slot) (hl : lv_has ls 4 []), W p l e rmX0_canResize s m args below meth c H locs 0 0 Q (F0 m 63 ls [])) → (∀ b, res = .inr b → some b = some R0) → W p l e rmX0_canResize s m args below meth c H locs 0 0 Q (F0 m 2 ls []) := by
    intro x1 n
    induction n with
    | zero => intro x2 res hz; exact (zlp_0 hz).elim
    | succ n ih =>
      intro x2 res hz σ H locs hH h_fd h_fd_cornerXs h_fd_cornerYs hbg ls hl kx kr
      obtain ⟨nx, hf, hnx⟩ := zlp_some hz
      have hf : f_X0_canResize_L2 fd_cornerXs fd_cornerYs fd_cornerCount x1 x2 = some nx := hf
      unfold f_X0_canResize_L2 at hf
      refine lv_iload_n hx hb dX0_canResize_2 rfl (lv_at hl 2 rfl) ?_
      refine lv_aload_n hx hb dX0_canResize_3 rfl (lv_at hl 0 rfl) ?_
      refine zget hx hb inlX0 rfl 7 rfl zk_t3_103 hts hown hK hH hk_fd h_fd rfl dX0_canResize_4 ?_
      obtain ⟨k1, hf⟩ := zck_some hf
      refine lz_icmp_ge (tgt := 63) hx hb k1 dX0_canResize_7 (by decide) (fun c2 => ?_) (fun c2 => ?_)
      · replace hf := (if_pos c2).symm.trans hf
        cases hf
        exact kx x2 hnx.symm _ _ _ hH h_fd h_fd_cornerXs h_fd_cornerYs hbg _ (lv_sub hl [] rfl)
      · replace hf := (if_neg c2).symm.trans hf
        refine lv_iload_n hx hb dX0_canResize_10 rfl (lv_at hl 2 rfl) ?_
        refine lv_aload_n hx hb dX0_canResize_11 rfl (lv_at hl 0 rfl) ?_
        refine zget hx hb inlX0 rfl 3 rfl zk_t3_97 hts hown hK hH hk_fd h_fd rfl dX0_canResize_12 ?_
        refine zalen (z := 8) hx hb hK hH hk_fd_cornerXs 0 h_fd_cornerXs rfl (show Int32.ofNat 8 = zI 8 by decide +kernel) dX0_canResize_15 ?_
        obtain ⟨k3, hf⟩ := zck_some hf
        refine lz_icmp_ge (tgt := 63) hx hb ⟨k3, by decide⟩ dX0_canResize_16 (by decide) (fun c4 => ?_) (fun c4 => ?_)
        · replace hf := (if_pos c4).symm.trans hf
          cases hf
          exact kx x2 hnx.symm _ _ _ hH h_fd h_fd_cornerXs h_fd_cornerYs hbg _ (lv_sub hl [] rfl)
        · replace hf := (if_neg c4).symm.trans hf
          refine lv_iload_n hx hb dX0_canResize_19 rfl (lv_at hl 2 rfl) ?_
          refine lv_aload_n hx hb dX0_canResize_20 rfl (lv_at hl 0 rfl) ?_
          refine zget hx hb inlX0 rfl 4 rfl zk_t3_98 hts hown hK hH hk_fd h_fd rfl dX0_canResize_21 ?_
          refine zalen (z := 8) hx hb hK hH hk_fd_cornerYs 0 h_fd_cornerYs rfl (show Int32.ofNat 8 = zI 8 by decide +kernel) dX0_canResize_24 ?_
          obtain ⟨k5, hf⟩ := zck_some hf
          refine lz_icmp_ge (tgt := 63) hx hb ⟨k5, by decide⟩ dX0_canResize_25 (by decide) (fun c6 => ?_) (fun c6 => ?_)
          · replace hf := (if_pos c6).symm.trans hf
            cases hf
            exact kx x2 hnx.symm _ _ _ hH h_fd h_fd_cornerXs h_fd_cornerYs hbg _ (lv_sub hl [] rfl)
          · replace hf := (if_neg c6).symm.trans hf
            refine lv_aload_n hx hb dX0_canResize_28 rfl (lv_at hl 0 rfl) ?_
            refine zget hx hb inlX0 rfl 3 rfl zk_t3_97 hts hown hK hH hk_fd h_fd rfl dX0_canResize_29 ?_
            refine lv_iload_n hx hb dX0_canResize_32 rfl (lv_at hl 2 rfl) ?_
            obtain ⟨k7, hf⟩ := zck_some hf
            refine ziald hx hb hK hH hk_fd_cornerXs 0 h_fd_cornerXs rfl k7 rfl dX0_canResize_33 ?_
            refine lv_aload_n hx hb dX0_canResize_34 rfl (lv_at hl 0 rfl) ?_
            refine zget hx hb inlX0 rfl 4 rfl zk_t3_98 hts hown hK hH hk_fd h_fd rfl dX0_canResize_35 ?_
            refine lv_iload_n hx hb dX0_canResize_38 rfl (lv_at hl 2 rfl) ?_
            obtain ⟨k8, hf⟩ := zck_some hf
            refine ziald hx hb hK hH hk_fd_cornerYs 0 h_fd_cornerYs rfl k8 rfl dX0_canResize_39 ?_
            obtain ⟨k9, hf⟩ := zck_some hf
            refine lz_mmax hx hb (hml.trans hl.1.symm) hown hts zk_t1_215 zk_t1_213 zk_t1_6 zk_t1_214 ⟨Nat.le_of_ble_eq_true rfl, Nat.le_of_ble_eq_true rfl⟩ ⟨Nat.zero_le _, Nat.zero_le _⟩ k9 dX0_canResize_40 ?_
            obtain ⟨v10, ev10, hf⟩ := zlt_some hf
            refine lz_nm ev10 ?_
            refine lv_istore_n (lv' := [(3, .int (zI v10)), (0, .ref (ad o)), (1, .int (zI x1)), (2, .int (zI x2))]) hx hb dX0_canResize_43 rfl hl (by decide) rfl (fun ls hl => ?_)
            refine lv_iload_n hx hb dX0_canResize_44 rfl (lv_at hl 0 rfl) ?_
            refine lv_iload_n hx hb dX0_canResize_45 rfl (lv_at hl 2 rfl) ?_
            refine lz_imul hx hb dX0_canResize_46 ?_
            refine lv_bipush (v := zI 100) hx hb dX0_canResize_47 (by decide +kernel) ?_
            obtain ⟨k11, hf⟩ := zck_some hf
            refine lz_idiv hx hb ⟨⟨k11, by decide⟩, by decide⟩ dX0_canResize_49 ?_
            refine lv_bipush (v := zI 32) hx hb dX0_canResize_50 (by decide +kernel) ?_
            obtain ⟨k12, hf⟩ := zck_some hf
            refine lz_icmp_lt (tgt := 57) hx hb ⟨k12, by decide⟩ dX0_canResize_52 (by decide) (fun c13 => ?_) (fun c13 => ?_)
            · replace hf := (if_pos c13).symm.trans hf
              refine lz_iinc (lv' := [(2, .int (zI (x2 + 1))), (3, .int (zI v10)), (0, .ref (ad o)), (1, .int (zI x1))]) hx hb dX0_canResize_57 hl (j := 3) rfl (by decide) rfl (fun ls hl => ?_)
              refine lv_goto (tgt := 2) hx hb dX0_canResize_60 (by decide) ?_
              cases hf
              exact ih (x2 + 1) _ hnx _ _ _ hH h_fd h_fd_cornerXs h_fd_cornerYs hbg _ (lv_sub hl [2, 3, 0] rfl) kx kr
            · replace hf := (if_neg c13).symm.trans hf
              refine lv_iconst (v := zI 0) hx hb dX0_canResize_55 (by decide +kernel) ?_
              cases hf
              replace hf := kr _ hnx.symm
              cases hf
              exact zretz hx hb hr hlocks hQ hH ⟨rfl, hbg⟩ (z_nar _ (Or.inl rfl)) dX0_canResize_56
  unfold f_X0_canResize at hf
  refine lv_iconst (v := zI 0) hx hb dX0_canResize_0 (by decide +kernel) ?_
  refine lv_istore_n (lv' := [(2, .int (zI 0)), (0, .ref (ad o)), (1, .int (zI p1))]) hx hb dX0_canResize_1 rfl hl (by decide) rfl (fun ls hl => ?_)
  obtain ⟨x17, k14, hf⟩ := zbs_some hf
  refine L2 p1 zFU 0 x17 k14 _ _ _ hH h_fd h_fd_cornerXs h_fd_cornerYs hbg _ (lv_sub hl [1, 2, 0] rfl) (fun w15 hres σ16 Hσ16 lσ16 hH h_fd h_fd_cornerXs h_fd_cornerYs hbg ls hl => ?_) (fun b hres => ?_)
  rotate_left
  · rw [hres] at hf; exact hf
  rw [hres] at hf
  replace hf := show _ = _ from hf
  simp only [zsel] at hf
  refine lv_iconst (v := zI 1) hx hb dX0_canResize_63 (by decide +kernel) ?_
  cases hf
  exact zretz hx hb hr hlocks hQ hH ⟨rfl, hbg⟩ (z_nar _ (Or.inr rfl)) dX0_canResize_64
abbrev rmX0_resize : Room := { frames := 0, cells := 0, slots := 0, locals := 0 }
theorem hd_X0_resize : yX0_resize.cls = RX0 ∧ yX0_resize.cls ≠ "java/lang/invoke/MethodHandle" ∧ yX0_resize.cls ≠ "java/lang/invoke/VarHandle" ∧ (parseMethodDescriptor yX0_resize.desc).map (fun d => d.parameters.length) = some 1 := by decide +kernel
set_option maxHeartbeats 4000000 in
set_option maxRecDepth 100000 in
theorem c_X0_resize {l : Launch} {D : va_G} {cI cZ cF cL cD : ClassId} {ad : Nat → Nat} {N : Nat} (hI : ∀ i j, i < N → j < N → ad i = ad j → i = j) (hN : 19 ≤ N) {o : Nat} (ho : 19 ≤ o ∧ o + 7 ≤ N) {σ0 : Nat → va_E} {sz : Nat} {fd_colour : Int} {fd_layer : Int} {fd_column : Int} {fd_cornerXs : Int → Int} {fd_cornerYs : Int → Int} {fd_cornerCount : Int} {fd_crossingCount : Int} {fd_density : Int} {fd_length : Int} {fd_shift : Int} {fd_pull : Int} {fd_underlay : Int} {fd_drawn : Int} {p1 : Int} {R_fd_cornerXs : Int → Int} {R_fd_cornerYs : Int → Int} {R_fd_drawn : Int} (h_fd : σ0 o = oC_fd ad o fd_colour fd_layer fd_column fd_cornerCount fd_crossingCount fd_density fd_length fd_shift fd_pull fd_underlay fd_drawn) (h_fd_cornerXs : σ0 (o + 1) = .inl (cI, 8, .inl (zA fd_cornerXs))) (h_fd_cornerYs : σ0 (o + 2) = .inl (cI, 8, .inl (zA fd_cornerYs))) (hf : f_X0_resize fd_cornerXs fd_cornerYs fd_cornerCount fd_drawn p1 = some (R_fd_cornerXs, R_fd_cornerYs, R_fd_drawn)) :
    Met l yX0_resize (Cond.code yX0_resize cX0_resize 3 none :: wsL_law) rmX0_resize (zPre D ad N (zT cI cZ cF cL cD) σ0 sz [.ref (ad o), .int (zI p1)]) (zQv D ad N sz (fun σ' => σ' o = oC_fd ad o fd_colour fd_layer fd_column fd_cornerCount fd_crossingCount fd_density fd_length fd_shift fd_pull fd_underlay R_fd_drawn ∧ σ' (o + 1) = .inl (cI, 8, .inl (zA R_fd_cornerXs)) ∧ σ' (o + 2) = .inl (cI, 8, .inl (zA R_fd_cornerYs)) ∧ ∀ i : Nat, i ≠ o → i ≠ (o + 1) → i ≠ (o + 2) → σ' i = σ0 i)) 0 0 (zFr ad N sz) := by
  refine zMet hI (plainFor_of_name (by decide)) (Nat.le_of_ble_eq_true rfl) ⟨rfl, rfl⟩ ?_
  intro p e s m args below meth c Q hx hb hr hlocks hml hown hts hK hsz hQ hH hA ls hl
  subst hsz
  have hk_fd : o < N := by omega
  have hk_fd_cornerXs : (o + 1) < N := by omega
  have hk_fd_cornerYs : (o + 2) < N := by omega
  have hl : lv_has ls 3 [(0, .ref (ad o)), (1, .int (zI p1))] := hl
  have hbg : ∀ i : Nat, i ≠ o → i ≠ (o + 1) → i ≠ (o + 2) → σ0 i = σ0 i := fun _ _ _ _ => rfl
  have J68 : ∀ (fd_cornerXs : Int → Int) (fd_cornerYs : Int → Int) (fd_drawn : Int) (σ : Nat → va_E) (H : Heap) (locs : List Loc) (hH : zH D ad N (zFr ad N s.heap.size) s.heap σ H locs) (h_fd : σ o = oC_fd ad o fd_colour fd_layer fd_column fd_cornerCount fd_crossingCount fd_density fd_length fd_shift fd_pull fd_underlay fd_drawn) (h_fd_cornerXs : σ (o + 1) = .inl (cI, 8, .inl (zA fd_cornerXs))) (h_fd_cornerYs : σ (o + 2) = .inl (cI, 8, .inl (zA fd_cornerYs))) (hbg : ∀ i : Nat, i ≠ o → i ≠ (o + 1) → i ≠ (o + 2) → σ i = σ0 i) (ls : Array Slot) (hl : lv_has ls 3 [(0, .ref (ad o))]), f_X0_resize_68 fd_cornerXs fd_cornerYs fd_cornerCount fd_drawn = some (R_fd_cornerXs, R_fd_cornerYs, R_fd_drawn) → W p l e rmX0_resize s m args below meth c H locs 0 0 Q (F0 m 68 ls []) := by
    intro fd_cornerXs fd_cornerYs fd_drawn σ H locs hH h_fd h_fd_cornerXs h_fd_cornerYs hbg ls hl hf
    unfold f_X0_resize_68 at hf
    refine lv_aload_n hx hb dX0_resize_68 rfl (lv_at hl 0 rfl) ?_
    refine lv_iconst (v := zI 0) hx hb dX0_resize_69 (by decide +kernel) ?_
    refine zput hx hb inlX0 tyX0 tyX0_ok nmX0 rfl 14 rfl zk_t3_112 rfl hts hown hK hH hk_fd h_fd (z_nar _ (Or.inl rfl)) (z_fit _ (Or.inl rfl)) rfl dX0_resize_70 (fun σ1 Hσ1 lσ1 h_fd hn hH => ?_)
    have h_fd : σ1 o = oC_fd ad o fd_colour fd_layer fd_column fd_cornerCount fd_crossingCount fd_density fd_length fd_shift fd_pull fd_underlay 0 := h_fd
    have h_fd_cornerXs := (hn (o + 1) (by omega)).trans h_fd_cornerXs
    have h_fd_cornerYs := (hn (o + 2) (by omega)).trans h_fd_cornerYs
    have hbg : ∀ i : Nat, i ≠ o → i ≠ (o + 1) → i ≠ (o + 2) → σ1 i = σ0 i := fun i a0 a1 a2 => (hn i a0).trans (hbg i a0 a1 a2)
    cases hf
    exact zretv hx hb hr hlocks hQ hH ⟨h_fd, h_fd_cornerXs, h_fd_cornerYs, hbg⟩ dX0_resize_73
  have L2 : ∀ (fd_drawn : Int) (x1 : Int)  (n : Nat) (x2 : Int) (fd_cornerXs : Int → Int) (fd_cornerYs : Int → Int) (x2' : Int) (fd_cornerXs' : Int → Int) (fd_cornerYs' : Int → Int), zlp (fun z => f_X0_resize_L2 fd_cornerCount fd_drawn x1 z.1 z.2.1 z.2.2) n (x2, fd_cornerXs, fd_cornerYs) = some (x2', fd_cornerXs', fd_cornerYs') → ∀ (σ : Nat → va_E) (H : Heap) (locs : List Loc) (hH : zH D ad N (zFr ad N s.heap.size) s.heap σ H locs) (h_fd : σ o = oC_fd ad o fd_colour fd_layer fd_column fd_cornerCount fd_crossingCount fd_density fd_length fd_shift fd_pull fd_underlay fd_drawn) (h_fd_cornerXs : σ (o + 1) = .inl (cI, 8, .inl (zA fd_cornerXs))) (h_fd_cornerYs : σ (o + 2) = .inl (cI, 8, .inl (zA fd_cornerYs))) (hbg : ∀ i : Nat, i ≠ o → i ≠ (o + 1) → i ≠ (o + 2) → σ i = σ0 i) (ls : Array Slot) (hl : lv_has ls 3 [(0, .ref (ad o)), (1, .int (zI x1)), (2, .int (zI x2))]), (∀ (σ : Nat → va_E) (H : Heap) (locs : List Loc) (hH : zH D ad N (zFr ad N s.heap.size) s.heap σ H locs) (h_fd : σ o = oC_fd ad o fd_colour fd_layer fd_column fd_cornerCount fd_crossingCount fd_density fd_length fd_shift fd_pull fd_underlay fd_drawn) (h_fd_cornerXs : σ (o + 1) = .inl (cI, 8, .inl (zA (fd_cornerXs')))) (h_fd_cornerYs : σ (o + 2) = .inl (cI, 8, .inl (zA (fd_cornerYs')))) (hbg : ∀ i : Nat, i ≠ o → i ≠ (o + 1) → i ≠ (o + 2) → σ i = σ0 i) (ls : Array Slot) (hl : lv_has ls 3 [(0, .ref (ad o))]), W p l e rmX0_resize s m args below meth c H locs 0 0 Q (F0 m 68 ls [])) → W p l e rmX0_resize s m args below meth c H locs 0 0 Q (F0 m 2 ls []) := by
    intro fd_drawn x1 n
    induction n with
    | zero => intro x2 fd_cornerXs fd_cornerYs x2' fd_cornerXs' fd_cornerYs' hz; exact (zlp_0 hz).elim
    | succ n ih =>
      intro x2 fd_cornerXs fd_cornerYs x2' fd_cornerXs' fd_cornerYs' hz σ H locs hH h_fd h_fd_cornerXs h_fd_cornerYs hbg ls hl kx
      obtain ⟨nx, hf, hnx⟩ := zlp_some hz
      have hf : f_X0_resize_L2 fd_cornerCount fd_drawn x1 x2 fd_cornerXs fd_cornerYs = some nx := hf
      unfold f_X0_resize_L2 at hf
      refine lv_iload_n hx hb dX0_resize_2 rfl (lv_at hl 2 rfl) ?_
      refine lv_aload_n hx hb dX0_resize_3 rfl (lv_at hl 0 rfl) ?_
      refine zget hx hb inlX0 rfl 7 rfl zk_t3_103 hts hown hK hH hk_fd h_fd rfl dX0_resize_4 ?_
      obtain ⟨k2, hf⟩ := zck_some hf
      refine lz_icmp_ge (tgt := 68) hx hb k2 dX0_resize_7 (by decide) (fun c3 => ?_) (fun c3 => ?_)
      · replace hf := (if_pos c3).symm.trans hf
        cases hf
        cases hnx
        exact kx _ _ _ hH h_fd h_fd_cornerXs h_fd_cornerYs hbg _ (lv_sub hl [0] rfl)
      · replace hf := (if_neg c3).symm.trans hf
        refine lv_iload_n hx hb dX0_resize_10 rfl (lv_at hl 2 rfl) ?_
        refine lv_aload_n hx hb dX0_resize_11 rfl (lv_at hl 0 rfl) ?_
        refine zget hx hb inlX0 rfl 3 rfl zk_t3_97 hts hown hK hH hk_fd h_fd rfl dX0_resize_12 ?_
        refine zalen (z := 8) hx hb hK hH hk_fd_cornerXs 0 h_fd_cornerXs rfl (show Int32.ofNat 8 = zI 8 by decide +kernel) dX0_resize_15 ?_
        obtain ⟨k4, hf⟩ := zck_some hf
        refine lz_icmp_ge (tgt := 68) hx hb ⟨k4, by decide⟩ dX0_resize_16 (by decide) (fun c5 => ?_) (fun c5 => ?_)
        · replace hf := (if_pos c5).symm.trans hf
          cases hf
          cases hnx
          exact kx _ _ _ hH h_fd h_fd_cornerXs h_fd_cornerYs hbg _ (lv_sub hl [0] rfl)
        · replace hf := (if_neg c5).symm.trans hf
          refine lv_iload_n hx hb dX0_resize_19 rfl (lv_at hl 2 rfl) ?_
          refine lv_aload_n hx hb dX0_resize_20 rfl (lv_at hl 0 rfl) ?_
          refine zget hx hb inlX0 rfl 4 rfl zk_t3_98 hts hown hK hH hk_fd h_fd rfl dX0_resize_21 ?_
          refine zalen (z := 8) hx hb hK hH hk_fd_cornerYs 0 h_fd_cornerYs rfl (show Int32.ofNat 8 = zI 8 by decide +kernel) dX0_resize_24 ?_
          obtain ⟨k6, hf⟩ := zck_some hf
          refine lz_icmp_ge (tgt := 68) hx hb ⟨k6, by decide⟩ dX0_resize_25 (by decide) (fun c7 => ?_) (fun c7 => ?_)
          · replace hf := (if_pos c7).symm.trans hf
            cases hf
            cases hnx
            exact kx _ _ _ hH h_fd h_fd_cornerXs h_fd_cornerYs hbg _ (lv_sub hl [0] rfl)
          · replace hf := (if_neg c7).symm.trans hf
            refine lv_aload_n hx hb dX0_resize_28 rfl (lv_at hl 0 rfl) ?_
            refine zget hx hb inlX0 rfl 3 rfl zk_t3_97 hts hown hK hH hk_fd h_fd rfl dX0_resize_29 ?_
            refine lv_iload_n hx hb dX0_resize_32 rfl (lv_at hl 2 rfl) ?_
            refine lv_aload_n hx hb dX0_resize_33 rfl (lv_at hl 0 rfl) ?_
            refine zget hx hb inlX0 rfl 3 rfl zk_t3_97 hts hown hK hH hk_fd h_fd rfl dX0_resize_34 ?_
            refine lv_iload_n hx hb dX0_resize_37 rfl (lv_at hl 2 rfl) ?_
            obtain ⟨k8, hf⟩ := zck_some hf
            refine ziald hx hb hK hH hk_fd_cornerXs 0 h_fd_cornerXs rfl k8 rfl dX0_resize_38 ?_
            refine lv_iload_n hx hb dX0_resize_39 rfl (lv_at hl 1 rfl) ?_
            refine lz_imul hx hb dX0_resize_40 ?_
            refine lv_bipush (v := zI 100) hx hb dX0_resize_41 (by decide +kernel) ?_
            obtain ⟨k9, hf⟩ := zck_some hf
            refine lz_idiv hx hb ⟨⟨k9, by decide⟩, by decide⟩ dX0_resize_43 ?_
            obtain ⟨k10, hf⟩ := zck_some hf
            obtain ⟨a12, ea12, hf⟩ := zlt_some hf
            refine ziast hx hb hK hH hk_fd_cornerXs 0 h_fd_cornerXs rfl k10 rfl dX0_resize_44 (fun σ11 Hσ11 lσ11 h_fd_cornerXs hn hH => ?_)
            rw [← ea12] at h_fd_cornerXs
            have h_fd := (hn o (by omega)).trans h_fd
            have h_fd_cornerYs := (hn (o + 2) (by omega)).trans h_fd_cornerYs
            have hbg : ∀ i : Nat, i ≠ o → i ≠ (o + 1) → i ≠ (o + 2) → σ11 i = σ0 i := fun i a0 a1 a2 => (hn i a1).trans (hbg i a0 a1 a2)
            refine lv_aload_n hx hb dX0_resize_45 rfl (lv_at hl 0 rfl) ?_
            refine zget hx hb inlX0 rfl 4 rfl zk_t3_98 hts hown hK hH hk_fd h_fd rfl dX0_resize_46 ?_
            refine lv_iload_n hx hb dX0_resize_49 rfl (lv_at hl 2 rfl) ?_
            refine lv_aload_n hx hb dX0_resize_50 rfl (lv_at hl 0 rfl) ?_
            refine zget hx hb inlX0 rfl 4 rfl zk_t3_98 hts hown hK hH hk_fd h_fd rfl dX0_resize_51 ?_
            refine lv_iload_n hx hb dX0_resize_54 rfl (lv_at hl 2 rfl) ?_
            obtain ⟨k13, hf⟩ := zck_some hf
            refine ziald hx hb hK hH hk_fd_cornerYs 0 h_fd_cornerYs rfl k13 rfl dX0_resize_55 ?_
            refine lv_iload_n hx hb dX0_resize_56 rfl (lv_at hl 1 rfl) ?_
            refine lz_imul hx hb dX0_resize_57 ?_
            refine lv_bipush (v := zI 100) hx hb dX0_resize_58 (by decide +kernel) ?_
            obtain ⟨k14, hf⟩ := zck_some hf
            refine lz_idiv hx hb ⟨⟨k14, by decide⟩, by decide⟩ dX0_resize_60 ?_
            obtain ⟨k15, hf⟩ := zck_some hf
            obtain ⟨a17, ea17, hf⟩ := zlt_some hf
            refine ziast hx hb hK hH hk_fd_cornerYs 0 h_fd_cornerYs rfl k15 rfl dX0_resize_61 (fun σ16 Hσ16 lσ16 h_fd_cornerYs hn hH => ?_)
            rw [← ea17] at h_fd_cornerYs
            have h_fd := (hn o (by omega)).trans h_fd
            have h_fd_cornerXs := (hn (o + 1) (by omega)).trans h_fd_cornerXs
            have hbg : ∀ i : Nat, i ≠ o → i ≠ (o + 1) → i ≠ (o + 2) → σ16 i = σ0 i := fun i a0 a1 a2 => (hn i a2).trans (hbg i a0 a1 a2)
            refine lz_iinc (lv' := [(2, .int (zI (x2 + 1))), (0, .ref (ad o)), (1, .int (zI x1))]) hx hb dX0_resize_62 hl (j := 2) rfl (by decide) rfl (fun ls hl => ?_)
            refine lv_goto (tgt := 2) hx hb dX0_resize_65 (by decide) ?_
            cases hf
            exact ih (x2 + 1) a12 a17 _ _ _ hnx _ _ _ hH h_fd h_fd_cornerXs h_fd_cornerYs hbg _ (lv_sub hl [1, 2, 0] rfl) kx
  unfold f_X0_resize at hf
  refine lv_iconst (v := zI 0) hx hb dX0_resize_0 (by decide +kernel) ?_
  refine lv_istore_n (lv' := [(2, .int (zI 0)), (0, .ref (ad o)), (1, .int (zI p1))]) hx hb dX0_resize_1 rfl hl (by decide) rfl (fun ls hl => ?_)
  obtain ⟨w19, w20, w21, k18, hf⟩ := zb3_some hf
  refine L2 fd_drawn p1 zFU 0 fd_cornerXs fd_cornerYs w19 w20 w21 k18 _ _ _ hH h_fd h_fd_cornerXs h_fd_cornerYs hbg _ (lv_sub hl [1, 2, 0] rfl) (fun σ22 Hσ22 lσ22 hH h_fd h_fd_cornerXs h_fd_cornerYs hbg ls hl => ?_)
  exact J68 w20 w21 fd_drawn _ _ _ hH h_fd h_fd_cornerXs h_fd_cornerYs hbg _ (lv_sub hl [0] rfl) hf
abbrev rmX4_put : Room := { frames := 0, cells := 0, slots := 0, locals := 0 }
theorem hd_X4_put : yX4_put.cls = RX4 ∧ yX4_put.cls ≠ "java/lang/invoke/MethodHandle" ∧ yX4_put.cls ≠ "java/lang/invoke/VarHandle" ∧ (parseMethodDescriptor yX4_put.desc).map (fun d => d.parameters.length) = some 2 := by decide +kernel
set_option maxHeartbeats 4000000 in
set_option maxRecDepth 100000 in
theorem c_X4_put {l : Launch} {D : va_G} {cI cZ cF cL cD : ClassId} {ad : Nat → Nat} {N : Nat} (hI : ∀ i j, i < N → j < N → ad i = ad j → i = j) (hN : 19 ≤ N) {o : Nat} (ho : 19 ≤ o ∧ o + 7 ≤ N) {σ0 : Nat → va_E} {sz : Nat} {pt_xs : Int → Int} {pt_ys : Int → Int} {pt_size : Int} {p1 : Int} {p2 : Int} {R_pt_xs : Int → Int} {R_pt_ys : Int → Int} {R_pt_size : Int} (h_pt : σ0 (o + 4) = oC_pt ad o pt_size) (h_pt_xs : σ0 (o + 5) = .inl (cI, 2078, .inl (zA pt_xs))) (h_pt_ys : σ0 (o + 6) = .inl (cI, 2078, .inl (zA pt_ys))) (hf : f_X4_put pt_xs pt_ys pt_size p1 p2 = some (R_pt_xs, R_pt_ys, R_pt_size)) :
    Met l yX4_put (Cond.code yX4_put cX4_put 4 none :: wsL_law) rmX4_put (zPre D ad N (zT cI cZ cF cL cD) σ0 sz [.ref (ad (o + 4)), .int (zI p1), .int (zI p2)]) (zQv D ad N sz (fun σ' => σ' (o + 4) = oC_pt ad o R_pt_size ∧ σ' (o + 5) = .inl (cI, 2078, .inl (zA R_pt_xs)) ∧ σ' (o + 6) = .inl (cI, 2078, .inl (zA R_pt_ys)) ∧ ∀ i : Nat, i ≠ (o + 4) → i ≠ (o + 5) → i ≠ (o + 6) → σ' i = σ0 i)) 0 0 (zFr ad N sz) := by
  refine zMet hI (plainFor_of_name (by decide)) (Nat.le_of_ble_eq_true rfl) ⟨rfl, rfl⟩ ?_
  intro p e s m args below meth c Q hx hb hr hlocks hml hown hts hK hsz hQ hH hA ls hl
  subst hsz
  have hk_pt : (o + 4) < N := by omega
  have hk_pt_xs : (o + 5) < N := by omega
  have hk_pt_ys : (o + 6) < N := by omega
  have hl : lv_has ls 4 [(0, .ref (ad (o + 4))), (1, .int (zI p1)), (2, .int (zI p2))] := hl
  have hbg : ∀ i : Nat, i ≠ (o + 4) → i ≠ (o + 5) → i ≠ (o + 6) → σ0 i = σ0 i := fun _ _ _ _ => rfl
  unfold f_X4_put at hf
  refine lv_aload_n hx hb dX4_put_0 rfl (lv_at hl 0 rfl) ?_
  refine zget hx hb inlX4 rfl 2 rfl zk_t3_78 hts hown hK hH hk_pt h_pt rfl dX4_put_1 ?_
  refine lv_istore_n (lv' := [(3, .int (zI pt_size)), (0, .ref (ad (o + 4))), (1, .int (zI p1)), (2, .int (zI p2))]) hx hb dX4_put_4 rfl hl (by decide) rfl (fun ls hl => ?_)
  refine lv_iload_n hx hb dX4_put_5 rfl (lv_at hl 0 rfl) ?_
  refine lv_aload_n hx hb dX4_put_6 rfl (lv_at hl 1 rfl) ?_
  refine zget hx hb inlX4 rfl 0 rfl zk_t3_72 hts hown hK hH hk_pt h_pt rfl dX4_put_7 ?_
  refine zalen (z := 2078) hx hb hK hH hk_pt_xs 0 h_pt_xs rfl (show Int32.ofNat 2078 = zI 2078 by decide +kernel) dX4_put_10 ?_
  obtain ⟨k1, hf⟩ := zck_some hf
  refine lz_icmp_ge (tgt := 44) hx hb ⟨k1, by decide⟩ dX4_put_11 (by decide) (fun c2 => ?_) (fun c2 => ?_)
  · replace hf := (if_pos c2).symm.trans hf
    cases hf
    exact zretv hx hb hr hlocks hQ hH ⟨h_pt, h_pt_xs, h_pt_ys, hbg⟩ dX4_put_44
  · replace hf := (if_neg c2).symm.trans hf
    refine lv_iload_n hx hb dX4_put_14 rfl (lv_at hl 0 rfl) ?_
    refine lv_aload_n hx hb dX4_put_15 rfl (lv_at hl 1 rfl) ?_
    refine zget hx hb inlX4 rfl 1 rfl zk_t3_75 hts hown hK hH hk_pt h_pt rfl dX4_put_16 ?_
    refine zalen (z := 2078) hx hb hK hH hk_pt_ys 0 h_pt_ys rfl (show Int32.ofNat 2078 = zI 2078 by decide +kernel) dX4_put_19 ?_
    obtain ⟨k3, hf⟩ := zck_some hf
    refine lz_icmp_ge (tgt := 44) hx hb ⟨k3, by decide⟩ dX4_put_20 (by decide) (fun c4 => ?_) (fun c4 => ?_)
    · replace hf := (if_pos c4).symm.trans hf
      cases hf
      exact zretv hx hb hr hlocks hQ hH ⟨h_pt, h_pt_xs, h_pt_ys, hbg⟩ dX4_put_44
    · replace hf := (if_neg c4).symm.trans hf
      refine lv_aload_n hx hb dX4_put_23 rfl (lv_at hl 1 rfl) ?_
      refine zget hx hb inlX4 rfl 0 rfl zk_t3_72 hts hown hK hH hk_pt h_pt rfl dX4_put_24 ?_
      refine lv_iload_n hx hb dX4_put_27 rfl (lv_at hl 0 rfl) ?_
      refine lv_iload_n hx hb dX4_put_28 rfl (lv_at hl 2 rfl) ?_
      obtain ⟨k5, hf⟩ := zck_some hf
      obtain ⟨a7, ea7, hf⟩ := zlt_some hf
      refine ziast hx hb hK hH hk_pt_xs 0 h_pt_xs rfl k5 rfl dX4_put_29 (fun σ6 Hσ6 lσ6 h_pt_xs hn hH => ?_)
      rw [← ea7] at h_pt_xs
      have h_pt := (hn (o + 4) (by omega)).trans h_pt
      have h_pt_ys := (hn (o + 6) (by omega)).trans h_pt_ys
      have hbg : ∀ i : Nat, i ≠ (o + 4) → i ≠ (o + 5) → i ≠ (o + 6) → σ6 i = σ0 i := fun i a0 a1 a2 => (hn i a1).trans (hbg i a0 a1 a2)
      refine lv_aload_n hx hb dX4_put_30 rfl (lv_at hl 1 rfl) ?_
      refine zget hx hb inlX4 rfl 1 rfl zk_t3_75 hts hown hK hH hk_pt h_pt rfl dX4_put_31 ?_
      refine lv_iload_n hx hb dX4_put_34 rfl (lv_at hl 0 rfl) ?_
      refine lv_iload_n hx hb dX4_put_35 rfl (lv_at hl 3 rfl) ?_
      obtain ⟨k8, hf⟩ := zck_some hf
      obtain ⟨a10, ea10, hf⟩ := zlt_some hf
      refine ziast hx hb hK hH hk_pt_ys 0 h_pt_ys rfl k8 rfl dX4_put_36 (fun σ9 Hσ9 lσ9 h_pt_ys hn hH => ?_)
      rw [← ea10] at h_pt_ys
      have h_pt := (hn (o + 4) (by omega)).trans h_pt
      have h_pt_xs := (hn (o + 5) (by omega)).trans h_pt_xs
      have hbg : ∀ i : Nat, i ≠ (o + 4) → i ≠ (o + 5) → i ≠ (o + 6) → σ9 i = σ0 i := fun i a0 a1 a2 => (hn i a2).trans (hbg i a0 a1 a2)
      refine lv_aload_n hx hb dX4_put_37 rfl (lv_at hl 1 rfl) ?_
      refine lv_iload_n hx hb dX4_put_38 rfl (lv_at hl 0 rfl) ?_
      refine lv_iconst (v := zI 1) hx hb dX4_put_39 (by decide +kernel) ?_
      refine lz_iadd hx hb dX4_put_40 ?_
      obtain ⟨v11, ev11, hf⟩ := zlt_some hf
      refine lz_nm ev11 ?_
      refine zput hx hb inlX4 tyX4 tyX4_ok nmX4 rfl 2 rfl zk_t3_78 rfl hts hown hK hH hk_pt h_pt rfl rfl rfl dX4_put_41 (fun σ12 Hσ12 lσ12 h_pt hn hH => ?_)
      have h_pt : σ12 (o + 4) = oC_pt ad o v11 := h_pt
      have h_pt_xs := (hn (o + 5) (by omega)).trans h_pt_xs
      have h_pt_ys := (hn (o + 6) (by omega)).trans h_pt_ys
      have hbg : ∀ i : Nat, i ≠ (o + 4) → i ≠ (o + 5) → i ≠ (o + 6) → σ12 i = σ0 i := fun i a0 a1 a2 => (hn i a0).trans (hbg i a0 a1 a2)
      cases hf
      exact zretv hx hb hr hlocks hQ hH ⟨h_pt, h_pt_xs, h_pt_ys, hbg⟩ dX4_put_44
abbrev rmX0_drawColumn : Room := { frames := 2, cells := 0, slots := 0, locals := 45 }
theorem hd_X0_drawColumn : yX0_drawColumn.cls = RX0 ∧ yX0_drawColumn.cls ≠ "java/lang/invoke/MethodHandle" ∧ yX0_drawColumn.cls ≠ "java/lang/invoke/VarHandle" ∧ (parseMethodDescriptor yX0_drawColumn.desc).map (fun d => d.parameters.length) = some 0 := by decide +kernel
set_option maxHeartbeats 4000000 in
set_option maxRecDepth 100000 in
theorem c_X0_drawColumn {l : Launch} {D : va_G} {cI cZ cF cL cD : ClassId} {ad : Nat → Nat} {N : Nat} (hI : ∀ i j, i < N → j < N → ad i = ad j → i = j) (hN : 19 ≤ N) {o : Nat} (ho : 19 ≤ o ∧ o + 7 ≤ N) {σ0 : Nat → va_E} {sz : Nat} {fd_colour : Int} {fd_layer : Int} {fd_column : Int} {fd_cornerXs : Int → Int} {fd_cornerYs : Int → Int} {fd_cornerCount : Int} {fd_crossingCount : Int} {fd_density : Int} {fd_length : Int} {fd_shift : Int} {fd_pull : Int} {fd_underlay : Int} {fd_drawn : Int} {pt_xs : Int → Int} {pt_ys : Int → Int} {pt_size : Int} {R_pt_xs : Int → Int} {R_pt_ys : Int → Int} {R_pt_size : Int} (h_fd : σ0 o = oC_fd ad o fd_colour fd_layer fd_column fd_cornerCount fd_crossingCount fd_density fd_length fd_shift fd_pull fd_underlay fd_drawn) (h_fd_cornerXs : σ0 (o + 1) = .inl (cI, 8, .inl (zA fd_cornerXs))) (h_fd_cornerYs : σ0 (o + 2) = .inl (cI, 8, .inl (zA fd_cornerYs))) (h_pt : σ0 (o + 4) = oC_pt ad o pt_size) (h_pt_xs : σ0 (o + 5) = .inl (cI, 2078, .inl (zA pt_xs))) (h_pt_ys : σ0 (o + 6) = .inl (cI, 2078, .inl (zA pt_ys))) (hf : f_X0_drawColumn fd_cornerXs fd_cornerYs fd_cornerCount fd_density pt_xs pt_ys pt_size = some (R_pt_xs, R_pt_ys, R_pt_size)) :
    Met l yX0_drawColumn (Cond.code yX0_drawColumn cX0_drawColumn 7 none :: wsL_law) rmX0_drawColumn (zPre D ad N (zT cI cZ cF cL cD) σ0 sz [.ref (ad o)]) (zQv D ad N sz (fun σ' => σ' (o + 4) = oC_pt ad o R_pt_size ∧ σ' (o + 5) = .inl (cI, 2078, .inl (zA R_pt_xs)) ∧ σ' (o + 6) = .inl (cI, 2078, .inl (zA R_pt_ys)) ∧ ∀ i : Nat, i ≠ (o + 4) → i ≠ (o + 5) → i ≠ (o + 6) → σ' i = σ0 i)) 0 0 (zFr ad N sz) := by
  refine zMet hI (plainFor_of_name (by decide)) (Nat.le_of_ble_eq_true rfl) ⟨rfl, rfl⟩ ?_
  intro p e s m args below meth c Q hx hb hr hlocks hml hown hts hK hsz hQ hH hA ls hl
  subst hsz
  have hk_fd : o < N := by omega
  have hk_fd_cornerXs : (o + 1) < N := by omega
  have hk_fd_cornerYs : (o + 2) < N := by omega
  have hk_pt : (o + 4) < N := by omega
  have hk_pt_xs : (o + 5) < N := by omega
  have hk_pt_ys : (o + 6) < N := by omega
  have hl : lv_has ls 7 [(0, .ref (ad o))] := hl
  have hbg : ∀ i : Nat, i ≠ (o + 4) → i ≠ (o + 5) → i ≠ (o + 6) → σ0 i = σ0 i := fun _ _ _ _ => rfl
  have L105 : ∀ (x5 : Int)  (n : Nat) (x6 : Int) (pt_xs : Int → Int) (pt_ys : Int → Int) (pt_size : Int) (x6' : Int) (pt_xs' : Int → Int) (pt_ys' : Int → Int) (pt_size' : Int), zlp (fun z => f_X0_drawColumn_L105 fd_cornerXs fd_cornerYs fd_cornerCount fd_density x5 z.1 z.2.1 z.2.2.1 z.2.2.2) n (x6, pt_xs, pt_ys, pt_size) = some (x6', pt_xs', pt_ys', pt_size') → ∀ (σ : Nat → va_E) (H : Heap) (locs : List Loc) (hH : zH D ad N (zFr ad N s.heap.size) s.heap σ H locs) (h_fd : σ o = oC_fd ad o fd_colour fd_layer fd_column fd_cornerCount fd_crossingCount fd_density fd_length fd_shift fd_pull fd_underlay fd_drawn) (h_fd_cornerXs : σ (o + 1) = .inl (cI, 8, .inl (zA fd_cornerXs))) (h_fd_cornerYs : σ (o + 2) = .inl (cI, 8, .inl (zA fd_cornerYs))) (h_pt : σ (o + 4) = oC_pt ad o pt_size) (h_pt_xs : σ (o + 5) = .inl (cI, 2078, .inl (zA pt_xs))) (h_pt_ys : σ (o + 6) = .inl (cI, 2078, .inl (zA pt_ys))) (hbg : ∀ i : Nat, i ≠ (o + 4) → i ≠ (o + 5) → i ≠ (o + 6) → σ i = σ0 i) (ls : Array Slot) (hl : lv_has ls 7 [(0, .ref (ad o)), (1, .ref (ad (o + 1))), (2, .ref (ad (o + 2))), (5, .int (zI x5)), (6, .int (zI x6))]), (∀ (σ : Nat → va_E) (H : Heap) (locs : List Loc) (hH : zH D ad N (zFr ad N s.heap.size) s.heap σ H locs) (h_fd : σ o = oC_fd ad o fd_colour fd_layer fd_column fd_cornerCount fd_crossingCount fd_density fd_length fd_shift fd_pull fd_underlay fd_drawn) (h_fd_cornerXs : σ (o + 1) = .inl (cI, 8, .inl (zA fd_cornerXs))) (h_fd_cornerYs : σ (o + 2) = .inl (cI, 8, .inl (zA fd_cornerYs))) (h_pt : σ (o + 4) = oC_pt ad o (pt_size')) (h_pt_xs : σ (o + 5) = .inl (cI, 2078, .inl (zA (pt_xs')))) (h_pt_ys : σ (o + 6) = .inl (cI, 2078, .inl (zA (pt_ys')))) (hbg : ∀ i : Nat, i ≠ (o + 4) → i ≠ (o + 5) → i ≠ (o + 6) → σ i = σ0 i) (ls : Array Slot) (hl : lv_has ls 7 []), W p l e rmX0_drawColumn s m args below meth c H locs 0 0 Q (F0 m 184 ls [])) → W p l e rmX0_drawColumn s m args below meth c H locs 0 0 Q (F0 m 105 ls []) := by
    intro x5 n
    induction n with
    | zero => intro x6 pt_xs pt_ys pt_size x6' pt_xs' pt_ys' pt_size' hz; exact (zlp_0 hz).elim
    | succ n ih =>
      intro x6 pt_xs pt_ys pt_size x6' pt_xs' pt_ys' pt_size' hz σ H locs hH h_fd h_fd_cornerXs h_fd_cornerYs h_pt h_pt_xs h_pt_ys hbg ls hl kx
      obtain ⟨nx, hf, hnx⟩ := zlp_some hz
      have hf : f_X0_drawColumn_L105 fd_cornerXs fd_cornerYs fd_cornerCount fd_density x5 x6 pt_xs pt_ys pt_size = some nx := hf
      unfold f_X0_drawColumn_L105 at hf
      refine lv_iload hx hb dX0_drawColumn_105 (lv_at hl 4 rfl) ?_
      refine lv_iload hx hb dX0_drawColumn_107 (lv_at hl 3 rfl) ?_
      obtain ⟨k1, hf⟩ := zck_some hf
      refine lz_icmp_gt (tgt := 184) hx hb k1 dX0_drawColumn_109 (by decide) (fun c2 => ?_) (fun c2 => ?_)
      · replace hf := (if_pos c2).symm.trans hf
        cases hf
        cases hnx
        exact kx _ _ _ hH h_fd h_fd_cornerXs h_fd_cornerYs h_pt h_pt_xs h_pt_ys hbg _ (lv_sub hl [] rfl)
      · replace hf := (if_neg c2).symm.trans hf
        refine lv_aload_n hx hb dX0_drawColumn_112 rfl (lv_at hl 0 rfl) ?_
        refine zget hx hb inlX0 rfl 6 rfl zk_t3_100 hts hown hK hH hk_fd h_fd rfl dX0_drawColumn_113 ?_
        refine lv_aload_n hx hb dX0_drawColumn_116 rfl (lv_at hl 1 rfl) ?_
        refine lv_iconst (v := zI 0) hx hb dX0_drawColumn_117 (by decide +kernel) ?_
        refine ziald hx hb hK hH hk_fd_cornerXs 0 h_fd_cornerXs rfl (by decide) rfl dX0_drawColumn_118 ?_
        refine lv_aload_n hx hb dX0_drawColumn_119 rfl (lv_at hl 1 rfl) ?_
        refine lv_iconst (v := zI 1) hx hb dX0_drawColumn_120 (by decide +kernel) ?_
        refine ziald hx hb hK hH hk_fd_cornerXs 0 h_fd_cornerXs rfl (by decide) rfl dX0_drawColumn_121 ?_
        refine lv_iload hx hb dX0_drawColumn_122 (lv_at hl 4 rfl) ?_
        refine lv_iload hx hb dX0_drawColumn_124 (lv_at hl 3 rfl) ?_
        obtain ⟨r3, k4, hf⟩ := zb1_some hf
        refine zcNi (As := [.int (zI (fd_cornerXs 0)), .int (zI (fd_cornerXs 1)), .int (zI x6), .int (zI x5)]) (rest := [.ref (ad (o + 4))]) hx hb hml hown hts hl.1 hK hH hA (c_X6_placeOf hI hN   k4) (host := RX6) (List.mem_of_getElem? (i := 5) rfl) zk_t1_217 zk_t1_1 zk_t1_218 hd_X6_placeOf rfl ⟨rfl, rfl, Nat.le_of_ble_eq_true rfl, Nat.le_of_ble_eq_true rfl⟩ ⟨Nat.zero_le _, Nat.zero_le _⟩ rfl (Nat.le_of_ble_eq_true rfl) dX0_drawColumn_126 (fun q6 σ5 Hσ5 lσ5 hp hH => ?_)
        obtain ⟨hr1, hs1⟩ := hp; subst hr1; rw [hs1] at hH
        refine lv_aload_n hx hb dX0_drawColumn_129 rfl (lv_at hl 2 rfl) ?_
        refine lv_iconst (v := zI 0) hx hb dX0_drawColumn_130 (by decide +kernel) ?_
        refine ziald hx hb hK hH hk_fd_cornerYs 0 h_fd_cornerYs rfl (by decide) rfl dX0_drawColumn_131 ?_
        refine lv_aload_n hx hb dX0_drawColumn_132 rfl (lv_at hl 2 rfl) ?_
        refine lv_iconst (v := zI 1) hx hb dX0_drawColumn_133 (by decide +kernel) ?_
        refine ziald hx hb hK hH hk_fd_cornerYs 0 h_fd_cornerYs rfl (by decide) rfl dX0_drawColumn_134 ?_
        refine lv_iload hx hb dX0_drawColumn_135 (lv_at hl 4 rfl) ?_
        refine lv_iload hx hb dX0_drawColumn_137 (lv_at hl 3 rfl) ?_
        obtain ⟨r7, k8, hf⟩ := zb1_some hf
        refine zcNi (As := [.int (zI (fd_cornerYs 0)), .int (zI (fd_cornerYs 1)), .int (zI x6), .int (zI x5)]) (rest := [.int (zI r3), .ref (ad (o + 4))]) hx hb hml hown hts hl.1 hK hH hA (c_X6_placeOf hI hN   k8) (host := RX6) (List.mem_of_getElem? (i := 5) rfl) zk_t1_217 zk_t1_1 zk_t1_218 hd_X6_placeOf rfl ⟨rfl, rfl, Nat.le_of_ble_eq_true rfl, Nat.le_of_ble_eq_true rfl⟩ ⟨Nat.zero_le _, Nat.zero_le _⟩ rfl (Nat.le_of_ble_eq_true rfl) dX0_drawColumn_139 (fun q10 σ9 Hσ9 lσ9 hp hH => ?_)
        obtain ⟨hr1, hs1⟩ := hp; subst hr1; rw [hs1] at hH
        obtain ⟨a11, a12, u13, k14, hf⟩ := zb3_some hf
        refine zcVv (C := RX4) (As := [.int (zI r3), .int (zI r7)]) (rest := []) hx hb hml hown hts hl.1 hK hH hA (c_X4_put hI hN ho h_pt h_pt_xs h_pt_ys k14) zk_t1_222 zk_t1_223 zk_t1_224 zk_t1_14 zk_t1_225 hd_X4_put rfl ⟨rfl, rfl, Nat.le_of_ble_eq_true rfl, Nat.le_of_ble_eq_true rfl⟩ ⟨Nat.zero_le _, Nat.zero_le _⟩ hk_pt h_pt rfl rfl rfl (Nat.le_of_ble_eq_true rfl) dX0_drawColumn_142 (fun σ15 Hσ15 lσ15 hp hH => ?_)
        obtain ⟨h_pt, h_pt_xs, h_pt_ys, hn⟩ := hp
        have h_fd := (hn o (by omega) (by omega) (by omega)).trans h_fd
        have h_fd_cornerXs := (hn (o + 1) (by omega) (by omega) (by omega)).trans h_fd_cornerXs
        have h_fd_cornerYs := (hn (o + 2) (by omega) (by omega) (by omega)).trans h_fd_cornerYs
        have hbg : ∀ i : Nat, i ≠ (o + 4) → i ≠ (o + 5) → i ≠ (o + 6) → σ15 i = σ0 i := fun i a0 a1 a2 => (hn i a0 a1 a2).trans (hbg i a0 a1 a2)
        refine lv_aload_n hx hb dX0_drawColumn_145 rfl (lv_at hl 0 rfl) ?_
        refine zget hx hb inlX0 rfl 6 rfl zk_t3_100 hts hown hK hH hk_fd h_fd rfl dX0_drawColumn_146 ?_
        refine lv_aload_n hx hb dX0_drawColumn_149 rfl (lv_at hl 1 rfl) ?_
        refine lv_iconst (v := zI 3) hx hb dX0_drawColumn_150 (by decide +kernel) ?_
        refine ziald hx hb hK hH hk_fd_cornerXs 0 h_fd_cornerXs rfl (by decide) rfl dX0_drawColumn_151 ?_
        refine lv_aload_n hx hb dX0_drawColumn_152 rfl (lv_at hl 1 rfl) ?_
        refine lv_iconst (v := zI 2) hx hb dX0_drawColumn_153 (by decide +kernel) ?_
        refine ziald hx hb hK hH hk_fd_cornerXs 0 h_fd_cornerXs rfl (by decide) rfl dX0_drawColumn_154 ?_
        refine lv_iload hx hb dX0_drawColumn_155 (lv_at hl 4 rfl) ?_
        refine lv_iload hx hb dX0_drawColumn_157 (lv_at hl 3 rfl) ?_
        obtain ⟨r16, k17, hf⟩ := zb1_some hf
        refine zcNi (As := [.int (zI (fd_cornerXs 3)), .int (zI (fd_cornerXs 2)), .int (zI x6), .int (zI x5)]) (rest := [.ref (ad (o + 4))]) hx hb hml hown hts hl.1 hK hH hA (c_X6_placeOf hI hN   k17) (host := RX6) (List.mem_of_getElem? (i := 5) rfl) zk_t1_217 zk_t1_1 zk_t1_218 hd_X6_placeOf rfl ⟨rfl, rfl, Nat.le_of_ble_eq_true rfl, Nat.le_of_ble_eq_true rfl⟩ ⟨Nat.zero_le _, Nat.zero_le _⟩ rfl (Nat.le_of_ble_eq_true rfl) dX0_drawColumn_159 (fun q19 σ18 Hσ18 lσ18 hp hH => ?_)
        obtain ⟨hr1, hs1⟩ := hp; subst hr1; rw [hs1] at hH
        refine lv_aload_n hx hb dX0_drawColumn_162 rfl (lv_at hl 2 rfl) ?_
        refine lv_iconst (v := zI 3) hx hb dX0_drawColumn_163 (by decide +kernel) ?_
        refine ziald hx hb hK hH hk_fd_cornerYs 0 h_fd_cornerYs rfl (by decide) rfl dX0_drawColumn_164 ?_
        refine lv_aload_n hx hb dX0_drawColumn_165 rfl (lv_at hl 2 rfl) ?_
        refine lv_iconst (v := zI 2) hx hb dX0_drawColumn_166 (by decide +kernel) ?_
        refine ziald hx hb hK hH hk_fd_cornerYs 0 h_fd_cornerYs rfl (by decide) rfl dX0_drawColumn_167 ?_
        refine lv_iload hx hb dX0_drawColumn_168 (lv_at hl 4 rfl) ?_
        refine lv_iload hx hb dX0_drawColumn_170 (lv_at hl 3 rfl) ?_
        obtain ⟨r20, k21, hf⟩ := zb1_some hf
        refine zcNi (As := [.int (zI (fd_cornerYs 3)), .int (zI (fd_cornerYs 2)), .int (zI x6), .int (zI x5)]) (rest := [.int (zI r16), .ref (ad (o + 4))]) hx hb hml hown hts hl.1 hK hH hA (c_X6_placeOf hI hN   k21) (host := RX6) (List.mem_of_getElem? (i := 5) rfl) zk_t1_217 zk_t1_1 zk_t1_218 hd_X6_placeOf rfl ⟨rfl, rfl, Nat.le_of_ble_eq_true rfl, Nat.le_of_ble_eq_true rfl⟩ ⟨Nat.zero_le _, Nat.zero_le _⟩ rfl (Nat.le_of_ble_eq_true rfl) dX0_drawColumn_172 (fun q23 σ22 Hσ22 lσ22 hp hH => ?_)
        obtain ⟨hr1, hs1⟩ := hp; subst hr1; rw [hs1] at hH
        obtain ⟨a24, a25, u26, k27, hf⟩ := zb3_some hf
        refine zcVv (C := RX4) (As := [.int (zI r16), .int (zI r20)]) (rest := []) hx hb hml hown hts hl.1 hK hH hA (c_X4_put hI hN ho h_pt h_pt_xs h_pt_ys k27) zk_t1_222 zk_t1_223 zk_t1_224 zk_t1_14 zk_t1_225 hd_X4_put rfl ⟨rfl, rfl, Nat.le_of_ble_eq_true rfl, Nat.le_of_ble_eq_true rfl⟩ ⟨Nat.zero_le _, Nat.zero_le _⟩ hk_pt h_pt rfl rfl rfl (Nat.le_of_ble_eq_true rfl) dX0_drawColumn_175 (fun σ28 Hσ28 lσ28 hp hH => ?_)
        obtain ⟨h_pt, h_pt_xs, h_pt_ys, hn⟩ := hp
        have h_fd := (hn o (by omega) (by omega) (by omega)).trans h_fd
        have h_fd_cornerXs := (hn (o + 1) (by omega) (by omega) (by omega)).trans h_fd_cornerXs
        have h_fd_cornerYs := (hn (o + 2) (by omega) (by omega) (by omega)).trans h_fd_cornerYs
        have hbg : ∀ i : Nat, i ≠ (o + 4) → i ≠ (o + 5) → i ≠ (o + 6) → σ28 i = σ0 i := fun i a0 a1 a2 => (hn i a0 a1 a2).trans (hbg i a0 a1 a2)
        refine lz_iinc (lv' := [(6, .int (zI (x6 + 1))), (0, .ref (ad o)), (1, .ref (ad (o + 1))), (2, .ref (ad (o + 2))), (5, .int (zI x5))]) hx hb dX0_drawColumn_178 hl (j := 4) rfl (by decide) rfl (fun ls hl => ?_)
        refine lv_goto (tgt := 105) hx hb dX0_drawColumn_181 (by decide) ?_
        cases hf
        exact ih (x6 + 1) a24 a25 u26 _ _ _ _ hnx _ _ _ hH h_fd h_fd_cornerXs h_fd_cornerYs h_pt h_pt_xs h_pt_ys hbg _ (lv_sub hl [1, 2, 3, 4, 0] rfl) kx
  unfold f_X0_drawColumn at hf
  refine lv_aload_n hx hb dX0_drawColumn_0 rfl (lv_at hl 0 rfl) ?_
  refine zget hx hb inlX0 rfl 7 rfl zk_t3_103 hts hown hK hH hk_fd h_fd rfl dX0_drawColumn_1 ?_
  refine lv_iconst (v := zI 4) hx hb dX0_drawColumn_4 (by decide +kernel) ?_
  obtain ⟨k29, hf⟩ := zck_some hf
  refine lz_icmp_lt (tgt := 39) hx hb ⟨k29, by decide⟩ dX0_drawColumn_5 (by decide) (fun c30 => ?_) (fun c30 => ?_)
  · replace hf := (if_pos c30).symm.trans hf
    cases hf
    exact zretv hx hb hr hlocks hQ hH ⟨h_pt, h_pt_xs, h_pt_ys, hbg⟩ dX0_drawColumn_39
  · replace hf := (if_neg c30).symm.trans hf
    refine lv_aload_n hx hb dX0_drawColumn_8 rfl (lv_at hl 0 rfl) ?_
    refine zget hx hb inlX0 rfl 7 rfl zk_t3_103 hts hown hK hH hk_fd h_fd rfl dX0_drawColumn_9 ?_
    refine lv_aload_n hx hb dX0_drawColumn_12 rfl (lv_at hl 0 rfl) ?_
    refine zget hx hb inlX0 rfl 3 rfl zk_t3_97 hts hown hK hH hk_fd h_fd rfl dX0_drawColumn_13 ?_
    refine zalen (z := 8) hx hb hK hH hk_fd_cornerXs 0 h_fd_cornerXs rfl (show Int32.ofNat 8 = zI 8 by decide +kernel) dX0_drawColumn_16 ?_
    obtain ⟨k31, hf⟩ := zck_some hf
    refine lz_icmp_gt (tgt := 39) hx hb ⟨k31, by decide⟩ dX0_drawColumn_17 (by decide) (fun c32 => ?_) (fun c32 => ?_)
    · replace hf := (if_pos c32).symm.trans hf
      cases hf
      exact zretv hx hb hr hlocks hQ hH ⟨h_pt, h_pt_xs, h_pt_ys, hbg⟩ dX0_drawColumn_39
    · replace hf := (if_neg c32).symm.trans hf
      refine lv_aload_n hx hb dX0_drawColumn_20 rfl (lv_at hl 0 rfl) ?_
      refine zget hx hb inlX0 rfl 7 rfl zk_t3_103 hts hown hK hH hk_fd h_fd rfl dX0_drawColumn_21 ?_
      refine lv_aload_n hx hb dX0_drawColumn_24 rfl (lv_at hl 0 rfl) ?_
      refine zget hx hb inlX0 rfl 4 rfl zk_t3_98 hts hown hK hH hk_fd h_fd rfl dX0_drawColumn_25 ?_
      refine zalen (z := 8) hx hb hK hH hk_fd_cornerYs 0 h_fd_cornerYs rfl (show Int32.ofNat 8 = zI 8 by decide +kernel) dX0_drawColumn_28 ?_
      obtain ⟨k33, hf⟩ := zck_some hf
      refine lz_icmp_gt (tgt := 39) hx hb ⟨k33, by decide⟩ dX0_drawColumn_29 (by decide) (fun c34 => ?_) (fun c34 => ?_)
      · replace hf := (if_pos c34).symm.trans hf
        cases hf
        exact zretv hx hb hr hlocks hQ hH ⟨h_pt, h_pt_xs, h_pt_ys, hbg⟩ dX0_drawColumn_39
      · replace hf := (if_neg c34).symm.trans hf
        refine lv_aload_n hx hb dX0_drawColumn_32 rfl (lv_at hl 0 rfl) ?_
        refine zget hx hb inlX0 rfl 9 rfl zk_t3_106 hts hown hK hH hk_fd h_fd rfl dX0_drawColumn_33 ?_
        obtain ⟨k35, hf⟩ := zck_some hf
        refine lz_if_gt (tgt := 40) hx hb k35 dX0_drawColumn_36 (by decide) (fun c36 => ?_) (fun c36 => ?_)
        · replace hf := (if_pos c36).symm.trans hf
          refine lv_aload_n hx hb dX0_drawColumn_40 rfl (lv_at hl 0 rfl) ?_
          refine zget hx hb inlX0 rfl 3 rfl zk_t3_97 hts hown hK hH hk_fd h_fd rfl dX0_drawColumn_41 ?_
          refine lv_astore_n (lv' := [(1, .ref (ad (o + 1))), (0, .ref (ad o))]) hx hb dX0_drawColumn_44 rfl hl (by decide) rfl (fun ls hl => ?_)
          refine lv_aload_n hx hb dX0_drawColumn_45 rfl (lv_at hl 1 rfl) ?_
          refine zget hx hb inlX0 rfl 4 rfl zk_t3_98 hts hown hK hH hk_fd h_fd rfl dX0_drawColumn_46 ?_
          refine lv_astore_n (lv' := [(2, .ref (ad (o + 2))), (1, .ref (ad (o + 1))), (0, .ref (ad o))]) hx hb dX0_drawColumn_49 rfl hl (by decide) rfl (fun ls hl => ?_)
          refine lv_aload_n hx hb dX0_drawColumn_50 rfl (lv_at hl 1 rfl) ?_
          refine lv_iconst (v := zI 1) hx hb dX0_drawColumn_51 (by decide +kernel) ?_
          refine ziald hx hb hK hH hk_fd_cornerXs 0 h_fd_cornerXs rfl (by decide) rfl dX0_drawColumn_52 ?_
          refine lv_aload_n hx hb dX0_drawColumn_53 rfl (lv_at hl 1 rfl) ?_
          refine lv_iconst (v := zI 0) hx hb dX0_drawColumn_54 (by decide +kernel) ?_
          refine ziald hx hb hK hH hk_fd_cornerXs 0 h_fd_cornerXs rfl (by decide) rfl dX0_drawColumn_55 ?_
          refine lz_isub hx hb dX0_drawColumn_56 ?_
          refine lv_aload_n hx hb dX0_drawColumn_57 rfl (lv_at hl 0 rfl) ?_
          refine lv_iconst (v := zI 1) hx hb dX0_drawColumn_58 (by decide +kernel) ?_
          refine ziald hx hb hK hH hk_fd_cornerYs 0 h_fd_cornerYs rfl (by decide) rfl dX0_drawColumn_59 ?_
          refine lv_aload_n hx hb dX0_drawColumn_60 rfl (lv_at hl 0 rfl) ?_
          refine lv_iconst (v := zI 0) hx hb dX0_drawColumn_61 (by decide +kernel) ?_
          refine ziald hx hb hK hH hk_fd_cornerYs 0 h_fd_cornerYs rfl (by decide) rfl dX0_drawColumn_62 ?_
          refine lz_isub hx hb dX0_drawColumn_63 ?_
          obtain ⟨r37, k38, hf⟩ := zb1_some hf
          refine zcNi (As := [.int (zI ((fd_cornerXs 1) - (fd_cornerXs 0))), .int (zI ((fd_cornerYs 1) - (fd_cornerYs 0)))]) (rest := []) hx hb hml hown hts hl.1 hK hH hA (c_X6_greaterDifference hI hN   k38) (host := RX6) (List.mem_of_getElem? (i := 4) rfl) zk_t1_207 zk_t1_1 zk_t1_208 hd_X6_greaterDifference rfl ⟨rfl, rfl, Nat.le_of_ble_eq_true rfl, Nat.le_of_ble_eq_true rfl⟩ ⟨Nat.zero_le _, Nat.zero_le _⟩ rfl (Nat.le_of_ble_eq_true rfl) dX0_drawColumn_64 (fun q40 σ39 Hσ39 lσ39 hp hH => ?_)
          obtain ⟨hr1, hs1⟩ := hp; subst hr1; rw [hs1] at hH
          refine lv_istore_n (lv' := [(3, .int (zI r37)), (2, .ref (ad (o + 2))), (1, .ref (ad (o + 1))), (0, .ref (ad o))]) hx hb dX0_drawColumn_67 rfl hl (by decide) rfl (fun ls hl => ?_)
          refine lv_aload_n hx hb dX0_drawColumn_68 rfl (lv_at hl 2 rfl) ?_
          refine lv_iconst (v := zI 2) hx hb dX0_drawColumn_69 (by decide +kernel) ?_
          refine ziald hx hb hK hH hk_fd_cornerXs 0 h_fd_cornerXs rfl (by decide) rfl dX0_drawColumn_70 ?_
          refine lv_aload_n hx hb dX0_drawColumn_71 rfl (lv_at hl 2 rfl) ?_
          refine lv_iconst (v := zI 3) hx hb dX0_drawColumn_72 (by decide +kernel) ?_
          refine ziald hx hb hK hH hk_fd_cornerXs 0 h_fd_cornerXs rfl (by decide) rfl dX0_drawColumn_73 ?_
          refine lz_isub hx hb dX0_drawColumn_74 ?_
          refine lv_aload_n hx hb dX0_drawColumn_75 rfl (lv_at hl 1 rfl) ?_
          refine lv_iconst (v := zI 2) hx hb dX0_drawColumn_76 (by decide +kernel) ?_
          refine ziald hx hb hK hH hk_fd_cornerYs 0 h_fd_cornerYs rfl (by decide) rfl dX0_drawColumn_77 ?_
          refine lv_aload_n hx hb dX0_drawColumn_78 rfl (lv_at hl 1 rfl) ?_
          refine lv_iconst (v := zI 3) hx hb dX0_drawColumn_79 (by decide +kernel) ?_
          refine ziald hx hb hK hH hk_fd_cornerYs 0 h_fd_cornerYs rfl (by decide) rfl dX0_drawColumn_80 ?_
          refine lz_isub hx hb dX0_drawColumn_81 ?_
          obtain ⟨r41, k42, hf⟩ := zb1_some hf
          refine zcNi (As := [.int (zI ((fd_cornerXs 2) - (fd_cornerXs 3))), .int (zI ((fd_cornerYs 2) - (fd_cornerYs 3)))]) (rest := []) hx hb hml hown hts hl.1 hK hH hA (c_X6_greaterDifference hI hN   k42) (host := RX6) (List.mem_of_getElem? (i := 4) rfl) zk_t1_207 zk_t1_1 zk_t1_208 hd_X6_greaterDifference rfl ⟨rfl, rfl, Nat.le_of_ble_eq_true rfl, Nat.le_of_ble_eq_true rfl⟩ ⟨Nat.zero_le _, Nat.zero_le _⟩ rfl (Nat.le_of_ble_eq_true rfl) dX0_drawColumn_82 (fun q44 σ43 Hσ43 lσ43 hp hH => ?_)
          obtain ⟨hr1, hs1⟩ := hp; subst hr1; rw [hs1] at hH
          refine lv_istore (lv' := [(4, .int (zI r41)), (3, .int (zI r37)), (2, .ref (ad (o + 2))), (1, .ref (ad (o + 1))), (0, .ref (ad o))]) hx hb dX0_drawColumn_85 hl (by decide) rfl (fun ls hl => ?_)
          refine lv_iload_n hx hb dX0_drawColumn_87 rfl (lv_at hl 1 rfl) ?_
          refine lv_iload hx hb dX0_drawColumn_88 (lv_at hl 0 rfl) ?_
          obtain ⟨k45, hf⟩ := zck_some hf
          refine lz_mmax hx hb (hml.trans hl.1.symm) hown hts zk_t1_215 zk_t1_213 zk_t1_6 zk_t1_214 ⟨Nat.le_of_ble_eq_true rfl, Nat.le_of_ble_eq_true rfl⟩ ⟨Nat.zero_le _, Nat.zero_le _⟩ k45 dX0_drawColumn_90 ?_
          refine lv_aload_n hx hb dX0_drawColumn_93 rfl (lv_at hl 4 rfl) ?_
          refine zget hx hb inlX0 rfl 9 rfl zk_t3_106 hts hown hK hH hk_fd h_fd rfl dX0_drawColumn_94 ?_
          obtain ⟨k46, hf⟩ := zck_some hf
          refine lz_idiv hx hb k46 dX0_drawColumn_97 ?_
          refine lv_iconst (v := zI 1) hx hb dX0_drawColumn_98 (by decide +kernel) ?_
          refine lz_iadd hx hb dX0_drawColumn_99 ?_
          obtain ⟨v47, ev47, hf⟩ := zlt_some hf
          refine lz_nm ev47 ?_
          refine lv_istore (lv' := [(5, .int (zI v47)), (4, .int (zI r41)), (3, .int (zI r37)), (2, .ref (ad (o + 2))), (1, .ref (ad (o + 1))), (0, .ref (ad o))]) hx hb dX0_drawColumn_100 hl (by decide) rfl (fun ls hl => ?_)
          refine lv_iconst (v := zI 0) hx hb dX0_drawColumn_102 (by decide +kernel) ?_
          refine lv_istore (lv' := [(6, .int (zI 0)), (5, .int (zI v47)), (4, .int (zI r41)), (3, .int (zI r37)), (2, .ref (ad (o + 2))), (1, .ref (ad (o + 1))), (0, .ref (ad o))]) hx hb dX0_drawColumn_103 hl (by decide) rfl (fun ls hl => ?_)
          obtain ⟨w49, w50, w51, w52, k48, hf⟩ := zb4_some hf
          refine L105 v47 zFU 0 pt_xs pt_ys pt_size w49 w50 w51 w52 k48 _ _ _ hH h_fd h_fd_cornerXs h_fd_cornerYs h_pt h_pt_xs h_pt_ys hbg _ (lv_sub hl [6, 5, 4, 1, 0] rfl) (fun σ53 Hσ53 lσ53 hH h_fd h_fd_cornerXs h_fd_cornerYs h_pt h_pt_xs h_pt_ys hbg ls hl => ?_)
          cases hf
          exact zretv hx hb hr hlocks hQ hH ⟨h_pt, h_pt_xs, h_pt_ys, hbg⟩ dX0_drawColumn_184
        · replace hf := (if_neg c36).symm.trans hf
          cases hf
          exact zretv hx hb hr hlocks hQ hH ⟨h_pt, h_pt_xs, h_pt_ys, hbg⟩ dX0_drawColumn_39
abbrev rmX0_cornerBehind : Room := { frames := 0, cells := 0, slots := 0, locals := 0 }
theorem hd_X0_cornerBehind : yX0_cornerBehind.cls = RX0 ∧ yX0_cornerBehind.cls ≠ "java/lang/invoke/MethodHandle" ∧ yX0_cornerBehind.cls ≠ "java/lang/invoke/VarHandle" ∧ (parseMethodDescriptor yX0_cornerBehind.desc).map (fun d => d.parameters.length) = some 1 := by decide +kernel
set_option maxHeartbeats 4000000 in
set_option maxRecDepth 100000 in
theorem c_X0_cornerBehind {l : Launch} {D : va_G} {cI cZ cF cL cD : ClassId} {ad : Nat → Nat} {N : Nat} (hI : ∀ i j, i < N → j < N → ad i = ad j → i = j) (hN : 19 ≤ N) {o : Nat} (ho : 19 ≤ o ∧ o + 7 ≤ N) {σ0 : Nat → va_E} {sz : Nat} {fd_colour : Int} {fd_layer : Int} {fd_column : Int} {fd_cornerCount : Int} {fd_crossingCount : Int} {fd_density : Int} {fd_length : Int} {fd_shift : Int} {fd_pull : Int} {fd_underlay : Int} {fd_drawn : Int} {p1 : Int} {R0 : Int} (h_fd : σ0 o = oC_fd ad o fd_colour fd_layer fd_column fd_cornerCount fd_crossingCount fd_density fd_length fd_shift fd_pull fd_underlay fd_drawn) (hf : f_X0_cornerBehind fd_cornerCount p1 = some R0) :
    Met l yX0_cornerBehind (Cond.code yX0_cornerBehind cX0_cornerBehind 2 (some .int) :: wsL_law) rmX0_cornerBehind (zPre D ad N (zT cI cZ cF cL cD) σ0 sz [.ref (ad o), .int (zI p1)]) (zQi D ad N sz (fun r σ' => r = zI R0 ∧ σ' = σ0)) 0 0 (zFr ad N sz) := by
  refine zMet hI (plainFor_of_name (by decide)) (Nat.le_of_ble_eq_true rfl) ⟨rfl, rfl⟩ ?_
  intro p e s m args below meth c Q hx hb hr hlocks hml hown hts hK hsz hQ hH hA ls hl
  subst hsz
  have hk_fd : o < N := by omega
  have hl : lv_has ls 2 [(0, .ref (ad o)), (1, .int (zI p1))] := hl
  have hbg : σ0 = σ0 := rfl
  unfold f_X0_cornerBehind at hf
  refine lv_iload_n hx hb dX0_cornerBehind_0 rfl (lv_at hl 1 rfl) ?_
  refine lv_iconst (v := zI 1) hx hb dX0_cornerBehind_1 (by decide +kernel) ?_
  refine lz_iadd hx hb dX0_cornerBehind_2 ?_
  refine lv_aload_n hx hb dX0_cornerBehind_3 rfl (lv_at hl 0 rfl) ?_
  refine zget hx hb inlX0 rfl 7 rfl zk_t3_103 hts hown hK hH hk_fd h_fd rfl dX0_cornerBehind_4 ?_
  obtain ⟨k1, hf⟩ := zck_some hf
  refine lz_icmp_ge (tgt := 16) hx hb k1 dX0_cornerBehind_7 (by decide) (fun c2 => ?_) (fun c2 => ?_)
  · replace hf := (if_pos c2).symm.trans hf
    refine lv_iconst (v := zI 0) hx hb dX0_cornerBehind_16 (by decide +kernel) ?_
    cases hf
    exact zreti hx hb hr hlocks hQ hH ⟨rfl, hbg⟩ dX0_cornerBehind_17
  · replace hf := (if_neg c2).symm.trans hf
    refine lv_iload_n hx hb dX0_cornerBehind_10 rfl (lv_at hl 1 rfl) ?_
    refine lv_iconst (v := zI 1) hx hb dX0_cornerBehind_11 (by decide +kernel) ?_
    refine lz_iadd hx hb dX0_cornerBehind_12 ?_
    refine lv_goto (tgt := 17) hx hb dX0_cornerBehind_13 (by decide) ?_
    cases hf
    exact zreti hx hb hr hlocks hQ hH ⟨rfl, hbg⟩ dX0_cornerBehind_17
abbrev rmX0_drawEdge : Room := { frames := 2, cells := 0, slots := 0, locals := 45 }
theorem hd_X0_drawEdge : yX0_drawEdge.cls = RX0 ∧ yX0_drawEdge.cls ≠ "java/lang/invoke/MethodHandle" ∧ yX0_drawEdge.cls ≠ "java/lang/invoke/VarHandle" ∧ (parseMethodDescriptor yX0_drawEdge.desc).map (fun d => d.parameters.length) = some 4 := by decide +kernel
set_option maxHeartbeats 4000000 in
set_option maxRecDepth 100000 in
theorem c_X0_drawEdge {l : Launch} {D : va_G} {cI cZ cF cL cD : ClassId} {ad : Nat → Nat} {N : Nat} (hI : ∀ i j, i < N → j < N → ad i = ad j → i = j) (hN : 19 ≤ N) {o : Nat} (ho : 19 ≤ o ∧ o + 7 ≤ N) {σ0 : Nat → va_E} {sz : Nat} {fd_colour : Int} {fd_layer : Int} {fd_column : Int} {fd_cornerCount : Int} {fd_crossingCount : Int} {fd_density : Int} {fd_length : Int} {fd_shift : Int} {fd_pull : Int} {fd_underlay : Int} {fd_drawn : Int} {pt_xs : Int → Int} {pt_ys : Int → Int} {pt_size : Int} {p1 : Int} {p2 : Int} {p3 : Int} {p4 : Int} {R_pt_xs : Int → Int} {R_pt_ys : Int → Int} {R_pt_size : Int} (h_fd : σ0 o = oC_fd ad o fd_colour fd_layer fd_column fd_cornerCount fd_crossingCount fd_density fd_length fd_shift fd_pull fd_underlay fd_drawn) (h_pt : σ0 (o + 4) = oC_pt ad o pt_size) (h_pt_xs : σ0 (o + 5) = .inl (cI, 2078, .inl (zA pt_xs))) (h_pt_ys : σ0 (o + 6) = .inl (cI, 2078, .inl (zA pt_ys))) (hf : f_X0_drawEdge fd_length pt_xs pt_ys pt_size p1 p2 p3 p4 = some (R_pt_xs, R_pt_ys, R_pt_size)) :
    Met l yX0_drawEdge (Cond.code yX0_drawEdge cX0_drawEdge 7 none :: wsL_law) rmX0_drawEdge (zPre D ad N (zT cI cZ cF cL cD) σ0 sz [.ref (ad o), .int (zI p1), .int (zI p2), .int (zI p3), .int (zI p4)]) (zQv D ad N sz (fun σ' => σ' (o + 4) = oC_pt ad o R_pt_size ∧ σ' (o + 5) = .inl (cI, 2078, .inl (zA R_pt_xs)) ∧ σ' (o + 6) = .inl (cI, 2078, .inl (zA R_pt_ys)) ∧ ∀ i : Nat, i ≠ (o + 4) → i ≠ (o + 5) → i ≠ (o + 6) → σ' i = σ0 i)) 0 0 (zFr ad N sz) := by
  refine zMet hI (plainFor_of_name (by decide)) (Nat.le_of_ble_eq_true rfl) ⟨rfl, rfl⟩ ?_
  intro p e s m args below meth c Q hx hb hr hlocks hml hown hts hK hsz hQ hH hA ls hl
  subst hsz
  have hk_fd : o < N := by omega
  have hk_pt : (o + 4) < N := by omega
  have hk_pt_xs : (o + 5) < N := by omega
  have hk_pt_ys : (o + 6) < N := by omega
  have hl : lv_has ls 7 [(0, .ref (ad o)), (1, .int (zI p1)), (2, .int (zI p2)), (3, .int (zI p3)), (4, .int (zI p4))] := hl
  have hbg : ∀ i : Nat, i ≠ (o + 4) → i ≠ (o + 5) → i ≠ (o + 6) → σ0 i = σ0 i := fun _ _ _ _ => rfl
  have L22 : ∀ (x1 : Int) (x2 : Int) (x3 : Int) (x4 : Int) (x5 : Int)  (n : Nat) (x6 : Int) (pt_xs : Int → Int) (pt_ys : Int → Int) (pt_size : Int) (x6' : Int) (pt_xs' : Int → Int) (pt_ys' : Int → Int) (pt_size' : Int), zlp (fun z => f_X0_drawEdge_L22 fd_length x1 x2 x3 x4 x5 z.1 z.2.1 z.2.2.1 z.2.2.2) n (x6, pt_xs, pt_ys, pt_size) = some (x6', pt_xs', pt_ys', pt_size') → ∀ (σ : Nat → va_E) (H : Heap) (locs : List Loc) (hH : zH D ad N (zFr ad N s.heap.size) s.heap σ H locs) (h_fd : σ o = oC_fd ad o fd_colour fd_layer fd_column fd_cornerCount fd_crossingCount fd_density fd_length fd_shift fd_pull fd_underlay fd_drawn) (h_pt : σ (o + 4) = oC_pt ad o pt_size) (h_pt_xs : σ (o + 5) = .inl (cI, 2078, .inl (zA pt_xs))) (h_pt_ys : σ (o + 6) = .inl (cI, 2078, .inl (zA pt_ys))) (hbg : ∀ i : Nat, i ≠ (o + 4) → i ≠ (o + 5) → i ≠ (o + 6) → σ i = σ0 i) (ls : Array Slot) (hl : lv_has ls 7 [(0, .ref (ad o)), (1, .int (zI x1)), (2, .int (zI x2)), (3, .int (zI x3)), (4, .int (zI x4)), (5, .int (zI x5)), (6, .int (zI x6))]), (∀ (σ : Nat → va_E) (H : Heap) (locs : List Loc) (hH : zH D ad N (zFr ad N s.heap.size) s.heap σ H locs) (h_fd : σ o = oC_fd ad o fd_colour fd_layer fd_column fd_cornerCount fd_crossingCount fd_density fd_length fd_shift fd_pull fd_underlay fd_drawn) (h_pt : σ (o + 4) = oC_pt ad o (pt_size')) (h_pt_xs : σ (o + 5) = .inl (cI, 2078, .inl (zA (pt_xs')))) (h_pt_ys : σ (o + 6) = .inl (cI, 2078, .inl (zA (pt_ys')))) (hbg : ∀ i : Nat, i ≠ (o + 4) → i ≠ (o + 5) → i ≠ (o + 6) → σ i = σ0 i) (ls : Array Slot) (hl : lv_has ls 7 []), W p l e rmX0_drawEdge s m args below meth c H locs 0 0 Q (F0 m 61 ls [])) → W p l e rmX0_drawEdge s m args below meth c H locs 0 0 Q (F0 m 22 ls []) := by
    intro x1 x2 x3 x4 x5 n
    induction n with
    | zero => intro x6 pt_xs pt_ys pt_size x6' pt_xs' pt_ys' pt_size' hz; exact (zlp_0 hz).elim
    | succ n ih =>
      intro x6 pt_xs pt_ys pt_size x6' pt_xs' pt_ys' pt_size' hz σ H locs hH h_fd h_pt h_pt_xs h_pt_ys hbg ls hl kx
      obtain ⟨nx, hf, hnx⟩ := zlp_some hz
      have hf : f_X0_drawEdge_L22 fd_length x1 x2 x3 x4 x5 x6 pt_xs pt_ys pt_size = some nx := hf
      unfold f_X0_drawEdge_L22 at hf
      refine lv_iload hx hb dX0_drawEdge_22 (lv_at hl 6 rfl) ?_
      refine lv_iload hx hb dX0_drawEdge_24 (lv_at hl 5 rfl) ?_
      obtain ⟨k1, hf⟩ := zck_some hf
      refine lz_icmp_gt (tgt := 61) hx hb k1 dX0_drawEdge_26 (by decide) (fun c2 => ?_) (fun c2 => ?_)
      · replace hf := (if_pos c2).symm.trans hf
        cases hf
        cases hnx
        exact kx _ _ _ hH h_fd h_pt h_pt_xs h_pt_ys hbg _ (lv_sub hl [] rfl)
      · replace hf := (if_neg c2).symm.trans hf
        refine lv_aload_n hx hb dX0_drawEdge_29 rfl (lv_at hl 0 rfl) ?_
        refine zget hx hb inlX0 rfl 6 rfl zk_t3_100 hts hown hK hH hk_fd h_fd rfl dX0_drawEdge_30 ?_
        refine lv_iload_n hx hb dX0_drawEdge_33 rfl (lv_at hl 1 rfl) ?_
        refine lv_iload_n hx hb dX0_drawEdge_34 rfl (lv_at hl 3 rfl) ?_
        refine lv_iload hx hb dX0_drawEdge_35 (lv_at hl 6 rfl) ?_
        refine lv_iload hx hb dX0_drawEdge_37 (lv_at hl 5 rfl) ?_
        obtain ⟨r3, k4, hf⟩ := zb1_some hf
        refine zcNi (As := [.int (zI x1), .int (zI x3), .int (zI x6), .int (zI x5)]) (rest := [.ref (ad (o + 4))]) hx hb hml hown hts hl.1 hK hH hA (c_X6_placeOf hI hN   k4) (host := RX6) (List.mem_of_getElem? (i := 5) rfl) zk_t1_217 zk_t1_1 zk_t1_218 hd_X6_placeOf rfl ⟨rfl, rfl, Nat.le_of_ble_eq_true rfl, Nat.le_of_ble_eq_true rfl⟩ ⟨Nat.zero_le _, Nat.zero_le _⟩ rfl (Nat.le_of_ble_eq_true rfl) dX0_drawEdge_39 (fun q6 σ5 Hσ5 lσ5 hp hH => ?_)
        obtain ⟨hr1, hs1⟩ := hp; subst hr1; rw [hs1] at hH
        refine lv_iload_n hx hb dX0_drawEdge_42 rfl (lv_at hl 2 rfl) ?_
        refine lv_iload hx hb dX0_drawEdge_43 (lv_at hl 4 rfl) ?_
        refine lv_iload hx hb dX0_drawEdge_45 (lv_at hl 6 rfl) ?_
        refine lv_iload hx hb dX0_drawEdge_47 (lv_at hl 5 rfl) ?_
        obtain ⟨r7, k8, hf⟩ := zb1_some hf
        refine zcNi (As := [.int (zI x2), .int (zI x4), .int (zI x6), .int (zI x5)]) (rest := [.int (zI r3), .ref (ad (o + 4))]) hx hb hml hown hts hl.1 hK hH hA (c_X6_placeOf hI hN   k8) (host := RX6) (List.mem_of_getElem? (i := 5) rfl) zk_t1_217 zk_t1_1 zk_t1_218 hd_X6_placeOf rfl ⟨rfl, rfl, Nat.le_of_ble_eq_true rfl, Nat.le_of_ble_eq_true rfl⟩ ⟨Nat.zero_le _, Nat.zero_le _⟩ rfl (Nat.le_of_ble_eq_true rfl) dX0_drawEdge_49 (fun q10 σ9 Hσ9 lσ9 hp hH => ?_)
        obtain ⟨hr1, hs1⟩ := hp; subst hr1; rw [hs1] at hH
        obtain ⟨a11, a12, u13, k14, hf⟩ := zb3_some hf
        refine zcVv (C := RX4) (As := [.int (zI r3), .int (zI r7)]) (rest := []) hx hb hml hown hts hl.1 hK hH hA (c_X4_put hI hN ho h_pt h_pt_xs h_pt_ys k14) zk_t1_222 zk_t1_223 zk_t1_224 zk_t1_14 zk_t1_225 hd_X4_put rfl ⟨rfl, rfl, Nat.le_of_ble_eq_true rfl, Nat.le_of_ble_eq_true rfl⟩ ⟨Nat.zero_le _, Nat.zero_le _⟩ hk_pt h_pt rfl rfl rfl (Nat.le_of_ble_eq_true rfl) dX0_drawEdge_52 (fun σ15 Hσ15 lσ15 hp hH => ?_)
        obtain ⟨h_pt, h_pt_xs, h_pt_ys, hn⟩ := hp
        have h_fd := (hn o (by omega) (by omega) (by omega)).trans h_fd
        have hbg : ∀ i : Nat, i ≠ (o + 4) → i ≠ (o + 5) → i ≠ (o + 6) → σ15 i = σ0 i := fun i a0 a1 a2 => (hn i a0 a1 a2).trans (hbg i a0 a1 a2)
        refine lz_iinc (lv' := [(6, .int (zI (x6 + 1))), (0, .ref (ad o)), (1, .int (zI x1)), (2, .int (zI x2)), (3, .int (zI x3)), (4, .int (zI x4)), (5, .int (zI x5))]) hx hb dX0_drawEdge_55 hl (j := 6) rfl (by decide) rfl (fun ls hl => ?_)
        refine lv_goto (tgt := 22) hx hb dX0_drawEdge_58 (by decide) ?_
        cases hf
        exact ih (x6 + 1) a11 a12 u13 _ _ _ _ hnx _ _ _ hH h_fd h_pt h_pt_xs h_pt_ys hbg _ (lv_sub hl [1, 2, 3, 4, 5, 6, 0] rfl) kx
  unfold f_X0_drawEdge at hf
  refine lv_iload_n hx hb dX0_drawEdge_0 rfl (lv_at hl 3 rfl) ?_
  refine lv_iload_n hx hb dX0_drawEdge_1 rfl (lv_at hl 1 rfl) ?_
  refine lz_isub hx hb dX0_drawEdge_2 ?_
  refine lv_iload hx hb dX0_drawEdge_3 (lv_at hl 4 rfl) ?_
  refine lv_iload_n hx hb dX0_drawEdge_5 rfl (lv_at hl 2 rfl) ?_
  refine lz_isub hx hb dX0_drawEdge_6 ?_
  obtain ⟨r16, k17, hf⟩ := zb1_some hf
  refine zcNi (As := [.int (zI (p3 - p1)), .int (zI (p4 - p2))]) (rest := []) hx hb hml hown hts hl.1 hK hH hA (c_X6_greaterDifference hI hN   k17) (host := RX6) (List.mem_of_getElem? (i := 4) rfl) zk_t1_207 zk_t1_1 zk_t1_208 hd_X6_greaterDifference rfl ⟨rfl, rfl, Nat.le_of_ble_eq_true rfl, Nat.le_of_ble_eq_true rfl⟩ ⟨Nat.zero_le _, Nat.zero_le _⟩ rfl (Nat.le_of_ble_eq_true rfl) dX0_drawEdge_7 (fun q19 σ18 Hσ18 lσ18 hp hH => ?_)
  obtain ⟨hr1, hs1⟩ := hp; subst hr1; rw [hs1] at hH
  refine lv_aload_n hx hb dX0_drawEdge_10 rfl (lv_at hl 0 rfl) ?_
  refine zget hx hb inlX0 rfl 10 rfl zk_t3_108 hts hown hK hH hk_fd h_fd rfl dX0_drawEdge_11 ?_
  obtain ⟨r20, k21, hf⟩ := zb1_some hf
  refine zcNi (As := [.int (zI r16), .int (zI fd_length)]) (rest := []) hx hb hml hown hts hl.1 hK hH hA (c_X6_roundedUp hI hN   k21) (host := RX6) (List.mem_of_getElem? (i := 6) rfl) zk_t1_239 zk_t1_1 zk_t2_0 hd_X6_roundedUp rfl ⟨rfl, rfl, Nat.le_of_ble_eq_true rfl, Nat.le_of_ble_eq_true rfl⟩ ⟨Nat.zero_le _, Nat.zero_le _⟩ rfl (Nat.le_of_ble_eq_true rfl) dX0_drawEdge_14 (fun q23 σ22 Hσ22 lσ22 hp hH => ?_)
  obtain ⟨hr1, hs1⟩ := hp; subst hr1; rw [hs1] at hH
  refine lv_istore (lv' := [(5, .int (zI r20)), (0, .ref (ad o)), (1, .int (zI p1)), (2, .int (zI p2)), (3, .int (zI p3)), (4, .int (zI p4))]) hx hb dX0_drawEdge_17 hl (by decide) rfl (fun ls hl => ?_)
  refine lv_iconst (v := zI 1) hx hb dX0_drawEdge_19 (by decide +kernel) ?_
  refine lv_istore (lv' := [(6, .int (zI 1)), (5, .int (zI r20)), (0, .ref (ad o)), (1, .int (zI p1)), (2, .int (zI p2)), (3, .int (zI p3)), (4, .int (zI p4))]) hx hb dX0_drawEdge_20 hl (by decide) rfl (fun ls hl => ?_)
  obtain ⟨w25, w26, w27, w28, k24, hf⟩ := zb4_some hf
  refine L22 p1 p2 p3 p4 r20 zFU 1 pt_xs pt_ys pt_size w25 w26 w27 w28 k24 _ _ _ hH h_fd h_pt h_pt_xs h_pt_ys hbg _ (lv_sub hl [2, 3, 4, 5, 6, 1, 0] rfl) (fun σ29 Hσ29 lσ29 hH h_fd h_pt h_pt_xs h_pt_ys hbg ls hl => ?_)
  cases hf
  exact zretv hx hb hr hlocks hQ hH ⟨h_pt, h_pt_xs, h_pt_ys, hbg⟩ dX0_drawEdge_61
abbrev rmX0_drawUnderlay : Room := { frames := 3, cells := 0, slots := 0, locals := 71 }
theorem hd_X0_drawUnderlay : yX0_drawUnderlay.cls = RX0 ∧ yX0_drawUnderlay.cls ≠ "java/lang/invoke/MethodHandle" ∧ yX0_drawUnderlay.cls ≠ "java/lang/invoke/VarHandle" ∧ (parseMethodDescriptor yX0_drawUnderlay.desc).map (fun d => d.parameters.length) = some 0 := by decide +kernel
set_option maxHeartbeats 4000000 in
set_option maxRecDepth 100000 in
theorem c_X0_drawUnderlay {l : Launch} {D : va_G} {cI cZ cF cL cD : ClassId} {ad : Nat → Nat} {N : Nat} (hI : ∀ i j, i < N → j < N → ad i = ad j → i = j) (hN : 19 ≤ N) {o : Nat} (ho : 19 ≤ o ∧ o + 7 ≤ N) {σ0 : Nat → va_E} {sz : Nat} {fd_colour : Int} {fd_layer : Int} {fd_column : Int} {fd_cornerXs : Int → Int} {fd_cornerYs : Int → Int} {fd_cornerCount : Int} {fd_crossingCount : Int} {fd_density : Int} {fd_length : Int} {fd_shift : Int} {fd_pull : Int} {fd_underlay : Int} {fd_drawn : Int} {pt_xs : Int → Int} {pt_ys : Int → Int} {pt_size : Int} {R_pt_xs : Int → Int} {R_pt_ys : Int → Int} {R_pt_size : Int} (h_fd : σ0 o = oC_fd ad o fd_colour fd_layer fd_column fd_cornerCount fd_crossingCount fd_density fd_length fd_shift fd_pull fd_underlay fd_drawn) (h_fd_cornerXs : σ0 (o + 1) = .inl (cI, 8, .inl (zA fd_cornerXs))) (h_fd_cornerYs : σ0 (o + 2) = .inl (cI, 8, .inl (zA fd_cornerYs))) (h_pt : σ0 (o + 4) = oC_pt ad o pt_size) (h_pt_xs : σ0 (o + 5) = .inl (cI, 2078, .inl (zA pt_xs))) (h_pt_ys : σ0 (o + 6) = .inl (cI, 2078, .inl (zA pt_ys))) (hf : f_X0_drawUnderlay fd_cornerXs fd_cornerYs fd_cornerCount fd_length pt_xs pt_ys pt_size = some (R_pt_xs, R_pt_ys, R_pt_size)) :
    Met l yX0_drawUnderlay (Cond.code yX0_drawUnderlay cX0_drawUnderlay 3 none :: wsL_law) rmX0_drawUnderlay (zPre D ad N (zT cI cZ cF cL cD) σ0 sz [.ref (ad o)]) (zQv D ad N sz (fun σ' => σ' (o + 4) = oC_pt ad o R_pt_size ∧ σ' (o + 5) = .inl (cI, 2078, .inl (zA R_pt_xs)) ∧ σ' (o + 6) = .inl (cI, 2078, .inl (zA R_pt_ys)) ∧ ∀ i : Nat, i ≠ (o + 4) → i ≠ (o + 5) → i ≠ (o + 6) → σ' i = σ0 i)) 0 0 (zFr ad N sz) := by
  refine zMet hI (plainFor_of_name (by decide)) (Nat.le_of_ble_eq_true rfl) ⟨rfl, rfl⟩ ?_
  intro p e s m args below meth c Q hx hb hr hlocks hml hown hts hK hsz hQ hH hA ls hl
  subst hsz
  have hk_fd : o < N := by omega
  have hk_fd_cornerXs : (o + 1) < N := by omega
  have hk_fd_cornerYs : (o + 2) < N := by omega
  have hk_pt : (o + 4) < N := by omega
  have hk_pt_xs : (o + 5) < N := by omega
  have hk_pt_ys : (o + 6) < N := by omega
  have hl : lv_has ls 3 [(0, .ref (ad o))] := hl
  have hbg : ∀ i : Nat, i ≠ (o + 4) → i ≠ (o + 5) → i ≠ (o + 6) → σ0 i = σ0 i := fun _ _ _ _ => rfl
  have L21 : ∀   (n : Nat) (x1 : Int) (pt_xs : Int → Int) (pt_ys : Int → Int) (pt_size : Int) (x1' : Int) (pt_xs' : Int → Int) (pt_ys' : Int → Int) (pt_size' : Int), zlp (fun z => f_X0_drawUnderlay_L21 fd_cornerXs fd_cornerYs fd_cornerCount fd_length z.1 z.2.1 z.2.2.1 z.2.2.2) n (x1, pt_xs, pt_ys, pt_size) = some (x1', pt_xs', pt_ys', pt_size') → ∀ (σ : Nat → va_E) (H : Heap) (locs : List Loc) (hH : zH D ad N (zFr ad N s.heap.size) s.heap σ H locs) (h_fd : σ o = oC_fd ad o fd_colour fd_layer fd_column fd_cornerCount fd_crossingCount fd_density fd_length fd_shift fd_pull fd_underlay fd_drawn) (h_fd_cornerXs : σ (o + 1) = .inl (cI, 8, .inl (zA fd_cornerXs))) (h_fd_cornerYs : σ (o + 2) = .inl (cI, 8, .inl (zA fd_cornerYs))) (h_pt : σ (o + 4) = oC_pt ad o pt_size) (h_pt_xs : σ (o + 5) = .inl (cI, 2078, .inl (zA pt_xs))) (h_pt_ys : σ (o + 6) = .inl (cI, 2078, .inl (zA pt_ys))) (hbg : ∀ i : Nat, i ≠ (o + 4) → i ≠ (o + 5) → i ≠ (o + 6) → σ i = σ0 i) (ls : Array Slot) (hl : lv_has ls 3 [(0, .ref (ad o)), (1, .int (zI x1))]), (∀ (σ : Nat → va_E) (H : Heap) (locs : List Loc) (hH : zH D ad N (zFr ad N s.heap.size) s.heap σ H locs) (h_fd : σ o = oC_fd ad o fd_colour fd_layer fd_column fd_cornerCount fd_crossingCount fd_density fd_length fd_shift fd_pull fd_underlay fd_drawn) (h_fd_cornerXs : σ (o + 1) = .inl (cI, 8, .inl (zA fd_cornerXs))) (h_fd_cornerYs : σ (o + 2) = .inl (cI, 8, .inl (zA fd_cornerYs))) (h_pt : σ (o + 4) = oC_pt ad o (pt_size')) (h_pt_xs : σ (o + 5) = .inl (cI, 2078, .inl (zA (pt_xs')))) (h_pt_ys : σ (o + 6) = .inl (cI, 2078, .inl (zA (pt_ys')))) (hbg : ∀ i : Nat, i ≠ (o + 4) → i ≠ (o + 5) → i ≠ (o + 6) → σ i = σ0 i) (ls : Array Slot) (hl : lv_has ls 3 []), W p l e rmX0_drawUnderlay s m args below meth c H locs 0 0 Q (F0 m 105 ls [])) → W p l e rmX0_drawUnderlay s m args below meth c H locs 0 0 Q (F0 m 21 ls []) := by
    intro  n
    induction n with
    | zero => intro x1 pt_xs pt_ys pt_size x1' pt_xs' pt_ys' pt_size' hz; exact (zlp_0 hz).elim
    | succ n ih =>
      intro x1 pt_xs pt_ys pt_size x1' pt_xs' pt_ys' pt_size' hz σ H locs hH h_fd h_fd_cornerXs h_fd_cornerYs h_pt h_pt_xs h_pt_ys hbg ls hl kx
      obtain ⟨nx, hf, hnx⟩ := zlp_some hz
      have hf : f_X0_drawUnderlay_L21 fd_cornerXs fd_cornerYs fd_cornerCount fd_length x1 pt_xs pt_ys pt_size = some nx := hf
      unfold f_X0_drawUnderlay_L21 at hf
      refine lv_iload_n hx hb dX0_drawUnderlay_21 rfl (lv_at hl 1 rfl) ?_
      refine lv_aload_n hx hb dX0_drawUnderlay_22 rfl (lv_at hl 0 rfl) ?_
      refine zget hx hb inlX0 rfl 7 rfl zk_t3_103 hts hown hK hH hk_fd h_fd rfl dX0_drawUnderlay_23 ?_
      obtain ⟨k1, hf⟩ := zck_some hf
      refine lz_icmp_ge (tgt := 105) hx hb k1 dX0_drawUnderlay_26 (by decide) (fun c2 => ?_) (fun c2 => ?_)
      · replace hf := (if_pos c2).symm.trans hf
        cases hf
        cases hnx
        exact kx _ _ _ hH h_fd h_fd_cornerXs h_fd_cornerYs h_pt h_pt_xs h_pt_ys hbg _ (lv_sub hl [] rfl)
      · replace hf := (if_neg c2).symm.trans hf
        refine lv_iload_n hx hb dX0_drawUnderlay_29 rfl (lv_at hl 1 rfl) ?_
        refine lv_aload_n hx hb dX0_drawUnderlay_30 rfl (lv_at hl 0 rfl) ?_
        refine zget hx hb inlX0 rfl 3 rfl zk_t3_97 hts hown hK hH hk_fd h_fd rfl dX0_drawUnderlay_31 ?_
        refine zalen (z := 8) hx hb hK hH hk_fd_cornerXs 0 h_fd_cornerXs rfl (show Int32.ofNat 8 = zI 8 by decide +kernel) dX0_drawUnderlay_34 ?_
        obtain ⟨k3, hf⟩ := zck_some hf
        refine lz_icmp_ge (tgt := 105) hx hb ⟨k3, by decide⟩ dX0_drawUnderlay_35 (by decide) (fun c4 => ?_) (fun c4 => ?_)
        · replace hf := (if_pos c4).symm.trans hf
          cases hf
          cases hnx
          exact kx _ _ _ hH h_fd h_fd_cornerXs h_fd_cornerYs h_pt h_pt_xs h_pt_ys hbg _ (lv_sub hl [] rfl)
        · replace hf := (if_neg c4).symm.trans hf
          refine lv_iload_n hx hb dX0_drawUnderlay_38 rfl (lv_at hl 1 rfl) ?_
          refine lv_aload_n hx hb dX0_drawUnderlay_39 rfl (lv_at hl 0 rfl) ?_
          refine zget hx hb inlX0 rfl 4 rfl zk_t3_98 hts hown hK hH hk_fd h_fd rfl dX0_drawUnderlay_40 ?_
          refine zalen (z := 8) hx hb hK hH hk_fd_cornerYs 0 h_fd_cornerYs rfl (show Int32.ofNat 8 = zI 8 by decide +kernel) dX0_drawUnderlay_43 ?_
          obtain ⟨k5, hf⟩ := zck_some hf
          refine lz_icmp_ge (tgt := 105) hx hb ⟨k5, by decide⟩ dX0_drawUnderlay_44 (by decide) (fun c6 => ?_) (fun c6 => ?_)
          · replace hf := (if_pos c6).symm.trans hf
            cases hf
            cases hnx
            exact kx _ _ _ hH h_fd h_fd_cornerXs h_fd_cornerYs h_pt h_pt_xs h_pt_ys hbg _ (lv_sub hl [] rfl)
          · replace hf := (if_neg c6).symm.trans hf
            refine lv_aload_n hx hb dX0_drawUnderlay_47 rfl (lv_at hl 0 rfl) ?_
            refine lv_iload_n hx hb dX0_drawUnderlay_48 rfl (lv_at hl 1 rfl) ?_
            obtain ⟨r7, k8, hf⟩ := zb1_some hf
            refine zcVi (C := RX0) (As := [.int (zI x1)]) (rest := []) hx hb hml hown hts hl.1 hK hH hA (c_X0_cornerBehind hI hN ho h_fd k8) zk_t1_230 zk_t1_232 zk_s1_3 zk_t1_13 zk_t1_233 hd_X0_cornerBehind rfl ⟨rfl, rfl, Nat.le_of_ble_eq_true rfl, Nat.le_of_ble_eq_true rfl⟩ ⟨Nat.zero_le _, Nat.zero_le _⟩ hk_fd h_fd rfl rfl rfl (Nat.le_of_ble_eq_true rfl) dX0_drawUnderlay_49 (fun q10 σ9 Hσ9 lσ9 hp hH => ?_)
            obtain ⟨hr1, hs1⟩ := hp; subst hr1; rw [hs1] at hH
            refine lv_istore_n (lv' := [(2, .int (zI r7)), (0, .ref (ad o)), (1, .int (zI x1))]) hx hb dX0_drawUnderlay_52 rfl hl (by decide) rfl (fun ls hl => ?_)
            refine lv_iload_n hx hb dX0_drawUnderlay_53 rfl (lv_at hl 0 rfl) ?_
            refine lv_aload_n hx hb dX0_drawUnderlay_54 rfl (lv_at hl 1 rfl) ?_
            refine zget hx hb inlX0 rfl 3 rfl zk_t3_97 hts hown hK hH hk_fd h_fd rfl dX0_drawUnderlay_55 ?_
            refine zalen (z := 8) hx hb hK hH hk_fd_cornerXs 0 h_fd_cornerXs rfl (show Int32.ofNat 8 = zI 8 by decide +kernel) dX0_drawUnderlay_58 ?_
            obtain ⟨k11, hf⟩ := zck_some hf
            refine lz_icmp_ge (tgt := 99) hx hb ⟨k11, by decide⟩ dX0_drawUnderlay_59 (by decide) (fun c12 => ?_) (fun c12 => ?_)
            · replace hf := (if_pos c12).symm.trans hf
              refine lz_iinc (lv' := [(1, .int (zI (x1 + 1))), (2, .int (zI r7)), (0, .ref (ad o))]) hx hb dX0_drawUnderlay_99 hl (j := 2) rfl (by decide) rfl (fun ls hl => ?_)
              refine lv_goto (tgt := 21) hx hb dX0_drawUnderlay_102 (by decide) ?_
              cases hf
              exact ih (x1 + 1) pt_xs pt_ys pt_size _ _ _ _ hnx _ _ _ hH h_fd h_fd_cornerXs h_fd_cornerYs h_pt h_pt_xs h_pt_ys hbg _ (lv_sub hl [2, 0] rfl) kx
            · replace hf := (if_neg c12).symm.trans hf
              refine lv_iload_n hx hb dX0_drawUnderlay_62 rfl (lv_at hl 0 rfl) ?_
              refine lv_aload_n hx hb dX0_drawUnderlay_63 rfl (lv_at hl 1 rfl) ?_
              refine zget hx hb inlX0 rfl 4 rfl zk_t3_98 hts hown hK hH hk_fd h_fd rfl dX0_drawUnderlay_64 ?_
              refine zalen (z := 8) hx hb hK hH hk_fd_cornerYs 0 h_fd_cornerYs rfl (show Int32.ofNat 8 = zI 8 by decide +kernel) dX0_drawUnderlay_67 ?_
              obtain ⟨k13, hf⟩ := zck_some hf
              refine lz_icmp_ge (tgt := 99) hx hb ⟨k13, by decide⟩ dX0_drawUnderlay_68 (by decide) (fun c14 => ?_) (fun c14 => ?_)
              · replace hf := (if_pos c14).symm.trans hf
                refine lz_iinc (lv' := [(1, .int (zI (x1 + 1))), (2, .int (zI r7)), (0, .ref (ad o))]) hx hb dX0_drawUnderlay_99 hl (j := 2) rfl (by decide) rfl (fun ls hl => ?_)
                refine lv_goto (tgt := 21) hx hb dX0_drawUnderlay_102 (by decide) ?_
                cases hf
                exact ih (x1 + 1) pt_xs pt_ys pt_size _ _ _ _ hnx _ _ _ hH h_fd h_fd_cornerXs h_fd_cornerYs h_pt h_pt_xs h_pt_ys hbg _ (lv_sub hl [2, 0] rfl) kx
              · replace hf := (if_neg c14).symm.trans hf
                refine lv_aload_n hx hb dX0_drawUnderlay_71 rfl (lv_at hl 1 rfl) ?_
                refine lv_aload_n hx hb dX0_drawUnderlay_72 rfl (lv_at hl 1 rfl) ?_
                refine zget hx hb inlX0 rfl 3 rfl zk_t3_97 hts hown hK hH hk_fd h_fd rfl dX0_drawUnderlay_73 ?_
                refine lv_iload_n hx hb dX0_drawUnderlay_76 rfl (lv_at hl 2 rfl) ?_
                obtain ⟨k15, hf⟩ := zck_some hf
                refine ziald hx hb hK hH hk_fd_cornerXs 0 h_fd_cornerXs rfl k15 rfl dX0_drawUnderlay_77 ?_
                refine lv_aload_n hx hb dX0_drawUnderlay_78 rfl (lv_at hl 1 rfl) ?_
                refine zget hx hb inlX0 rfl 4 rfl zk_t3_98 hts hown hK hH hk_fd h_fd rfl dX0_drawUnderlay_79 ?_
                refine lv_iload_n hx hb dX0_drawUnderlay_82 rfl (lv_at hl 2 rfl) ?_
                obtain ⟨k16, hf⟩ := zck_some hf
                refine ziald hx hb hK hH hk_fd_cornerYs 0 h_fd_cornerYs rfl k16 rfl dX0_drawUnderlay_83 ?_
                refine lv_aload_n hx hb dX0_drawUnderlay_84 rfl (lv_at hl 1 rfl) ?_
                refine zget hx hb inlX0 rfl 3 rfl zk_t3_97 hts hown hK hH hk_fd h_fd rfl dX0_drawUnderlay_85 ?_
                refine lv_iload_n hx hb dX0_drawUnderlay_88 rfl (lv_at hl 0 rfl) ?_
                obtain ⟨k17, hf⟩ := zck_some hf
                refine ziald hx hb hK hH hk_fd_cornerXs 0 h_fd_cornerXs rfl k17 rfl dX0_drawUnderlay_89 ?_
                refine lv_aload_n hx hb dX0_drawUnderlay_90 rfl (lv_at hl 1 rfl) ?_
                refine zget hx hb inlX0 rfl 4 rfl zk_t3_98 hts hown hK hH hk_fd h_fd rfl dX0_drawUnderlay_91 ?_
                refine lv_iload_n hx hb dX0_drawUnderlay_94 rfl (lv_at hl 0 rfl) ?_
                obtain ⟨k18, hf⟩ := zck_some hf
                refine ziald hx hb hK hH hk_fd_cornerYs 0 h_fd_cornerYs rfl k18 rfl dX0_drawUnderlay_95 ?_
                obtain ⟨a19, a20, u21, k22, hf⟩ := zb3_some hf
                refine zcVv (C := RX0) (As := [.int (zI (fd_cornerXs x1)), .int (zI (fd_cornerYs x1)), .int (zI (fd_cornerXs r7)), .int (zI (fd_cornerYs r7))]) (rest := []) hx hb hml hown hts hl.1 hK hH hA (c_X0_drawEdge hI hN ho h_fd h_pt h_pt_xs h_pt_ys k22) zk_t1_234 zk_t1_236 zk_s1_4 zk_t1_13 zk_t1_237 hd_X0_drawEdge rfl ⟨rfl, rfl, Nat.le_of_ble_eq_true rfl, Nat.le_of_ble_eq_true rfl⟩ ⟨Nat.zero_le _, Nat.zero_le _⟩ hk_fd h_fd rfl rfl rfl (Nat.le_of_ble_eq_true rfl) dX0_drawUnderlay_96 (fun σ23 Hσ23 lσ23 hp hH => ?_)
                obtain ⟨h_pt, h_pt_xs, h_pt_ys, hn⟩ := hp
                have h_fd := (hn o (by omega) (by omega) (by omega)).trans h_fd
                have h_fd_cornerXs := (hn (o + 1) (by omega) (by omega) (by omega)).trans h_fd_cornerXs
                have h_fd_cornerYs := (hn (o + 2) (by omega) (by omega) (by omega)).trans h_fd_cornerYs
                have hbg : ∀ i : Nat, i ≠ (o + 4) → i ≠ (o + 5) → i ≠ (o + 6) → σ23 i = σ0 i := fun i a0 a1 a2 => (hn i a0 a1 a2).trans (hbg i a0 a1 a2)
                refine lz_iinc (lv' := [(1, .int (zI (x1 + 1))), (2, .int (zI r7)), (0, .ref (ad o))]) hx hb dX0_drawUnderlay_99 hl (j := 2) rfl (by decide) rfl (fun ls hl => ?_)
                refine lv_goto (tgt := 21) hx hb dX0_drawUnderlay_102 (by decide) ?_
                cases hf
                exact ih (x1 + 1) a19 a20 u21 _ _ _ _ hnx _ _ _ hH h_fd h_fd_cornerXs h_fd_cornerYs h_pt h_pt_xs h_pt_ys hbg _ (lv_sub hl [2, 0] rfl) kx
  unfold f_X0_drawUnderlay at hf
  refine lv_aload_n hx hb dX0_drawUnderlay_0 rfl (lv_at hl 0 rfl) ?_
  refine zget hx hb inlX0 rfl 6 rfl zk_t3_100 hts hown hK hH hk_fd h_fd rfl dX0_drawUnderlay_1 ?_
  refine lv_aload_n hx hb dX0_drawUnderlay_4 rfl (lv_at hl 0 rfl) ?_
  refine zget hx hb inlX0 rfl 3 rfl zk_t3_97 hts hown hK hH hk_fd h_fd rfl dX0_drawUnderlay_5 ?_
  refine lv_iconst (v := zI 0) hx hb dX0_drawUnderlay_8 (by decide +kernel) ?_
  refine ziald hx hb hK hH hk_fd_cornerXs 0 h_fd_cornerXs rfl (by decide) rfl dX0_drawUnderlay_9 ?_
  refine lv_aload_n hx hb dX0_drawUnderlay_10 rfl (lv_at hl 0 rfl) ?_
  refine zget hx hb inlX0 rfl 4 rfl zk_t3_98 hts hown hK hH hk_fd h_fd rfl dX0_drawUnderlay_11 ?_
  refine lv_iconst (v := zI 0) hx hb dX0_drawUnderlay_14 (by decide +kernel) ?_
  refine ziald hx hb hK hH hk_fd_cornerYs 0 h_fd_cornerYs rfl (by decide) rfl dX0_drawUnderlay_15 ?_
  obtain ⟨a24, a25, u26, k27, hf⟩ := zb3_some hf
  refine zcVv (C := RX4) (As := [.int (zI (fd_cornerXs 0)), .int (zI (fd_cornerYs 0))]) (rest := []) hx hb hml hown hts hl.1 hK hH hA (c_X4_put hI hN ho h_pt h_pt_xs h_pt_ys k27) zk_t1_222 zk_t1_223 zk_t1_224 zk_t1_14 zk_t1_225 hd_X4_put rfl ⟨rfl, rfl, Nat.le_of_ble_eq_true rfl, Nat.le_of_ble_eq_true rfl⟩ ⟨Nat.zero_le _, Nat.zero_le _⟩ hk_pt h_pt rfl rfl rfl (Nat.le_of_ble_eq_true rfl) dX0_drawUnderlay_16 (fun σ28 Hσ28 lσ28 hp hH => ?_)
  obtain ⟨h_pt, h_pt_xs, h_pt_ys, hn⟩ := hp
  have h_fd := (hn o (by omega) (by omega) (by omega)).trans h_fd
  have h_fd_cornerXs := (hn (o + 1) (by omega) (by omega) (by omega)).trans h_fd_cornerXs
  have h_fd_cornerYs := (hn (o + 2) (by omega) (by omega) (by omega)).trans h_fd_cornerYs
  have hbg : ∀ i : Nat, i ≠ (o + 4) → i ≠ (o + 5) → i ≠ (o + 6) → σ28 i = σ0 i := fun i a0 a1 a2 => (hn i a0 a1 a2).trans (hbg i a0 a1 a2)
  refine lv_iconst (v := zI 0) hx hb dX0_drawUnderlay_19 (by decide +kernel) ?_
  refine lv_istore_n (lv' := [(1, .int (zI 0)), (0, .ref (ad o))]) hx hb dX0_drawUnderlay_20 rfl hl (by decide) rfl (fun ls hl => ?_)
  obtain ⟨w30, w31, w32, w33, k29, hf⟩ := zb4_some hf
  refine L21 zFU 0 a24 a25 u26 w30 w31 w32 w33 k29 _ _ _ hH h_fd h_fd_cornerXs h_fd_cornerYs h_pt h_pt_xs h_pt_ys hbg _ (lv_sub hl [1, 0] rfl) (fun σ34 Hσ34 lσ34 hH h_fd h_fd_cornerXs h_fd_cornerYs h_pt h_pt_xs h_pt_ys hbg ls hl => ?_)
  cases hf
  exact zretv hx hb hr hlocks hQ hH ⟨h_pt, h_pt_xs, h_pt_ys, hbg⟩ dX0_drawUnderlay_105
abbrev rmX0_leastY : Room := { frames := 1, cells := 0, slots := 0, locals := 21 }
theorem hd_X0_leastY : yX0_leastY.cls = RX0 ∧ yX0_leastY.cls ≠ "java/lang/invoke/MethodHandle" ∧ yX0_leastY.cls ≠ "java/lang/invoke/VarHandle" ∧ (parseMethodDescriptor yX0_leastY.desc).map (fun d => d.parameters.length) = some 0 := by decide +kernel
set_option maxHeartbeats 4000000 in
set_option maxRecDepth 100000 in
theorem c_X0_leastY {l : Launch} {D : va_G} {cI cZ cF cL cD : ClassId} {ad : Nat → Nat} {N : Nat} (hI : ∀ i j, i < N → j < N → ad i = ad j → i = j) (hN : 19 ≤ N) {o : Nat} (ho : 19 ≤ o ∧ o + 7 ≤ N) {σ0 : Nat → va_E} {sz : Nat} {fd_colour : Int} {fd_layer : Int} {fd_column : Int} {fd_cornerYs : Int → Int} {fd_cornerCount : Int} {fd_crossingCount : Int} {fd_density : Int} {fd_length : Int} {fd_shift : Int} {fd_pull : Int} {fd_underlay : Int} {fd_drawn : Int} {R0 : Int} (h_fd : σ0 o = oC_fd ad o fd_colour fd_layer fd_column fd_cornerCount fd_crossingCount fd_density fd_length fd_shift fd_pull fd_underlay fd_drawn) (h_fd_cornerYs : σ0 (o + 2) = .inl (cI, 8, .inl (zA fd_cornerYs))) (hf : f_X0_leastY fd_cornerYs fd_cornerCount = some R0) :
    Met l yX0_leastY (Cond.code yX0_leastY cX0_leastY 3 (some .int) :: wsL_law) rmX0_leastY (zPre D ad N (zT cI cZ cF cL cD) σ0 sz [.ref (ad o)]) (zQi D ad N sz (fun r σ' => r = zI R0 ∧ σ' = σ0)) 0 0 (zFr ad N sz) := by
  refine zMet hI (plainFor_of_name (by decide)) (Nat.le_of_ble_eq_true rfl) ⟨rfl, rfl⟩ ?_
  intro p e s m args below meth c Q hx hb hr hlocks hml hown hts hK hsz hQ hH hA ls hl
  subst hsz
  have hk_fd : o < N := by omega
  have hk_fd_cornerYs : (o + 2) < N := by omega
  have hl : lv_has ls 3 [(0, .ref (ad o))] := hl
  have hbg : σ0 = σ0 := rfl
  have L5 : ∀   (n : Nat) (x1 : Int) (x2 : Int) (x1' : Int) (x2' : Int), zlp (fun z => f_X0_leastY_L5 fd_cornerYs fd_cornerCount z.1 z.2) n (x1, x2) = some (x1', x2') → ∀ (σ : Nat → va_E) (H : Heap) (locs : List Loc) (hH : zH D ad N (zFr ad N s.heap.size) s.heap σ H locs) (h_fd : σ o = oC_fd ad o fd_colour fd_layer fd_column fd_cornerCount fd_crossingCount fd_density fd_length fd_shift fd_pull fd_underlay fd_drawn) (h_fd_cornerYs : σ (o + 2) = .inl (cI, 8, .inl (zA fd_cornerYs))) (hbg : σ = σ0) (ls : Array Slot) (hl : lv_has ls 3 [(0, .ref (ad o)), (1, .int (zI x1)), (2, .int (zI x2))]), (∀ (σ : Nat → va_E) (H : Heap) (locs : List Loc) (hH : zH D ad N (zFr ad N s.heap.size) s.heap σ H locs) (h_fd : σ o = oC_fd ad o fd_colour fd_layer fd_column fd_cornerCount fd_crossingCount fd_density fd_length fd_shift fd_pull fd_underlay fd_drawn) (h_fd_cornerYs : σ (o + 2) = .inl (cI, 8, .inl (zA fd_cornerYs))) (hbg : σ = σ0) (ls : Array Slot) (hl : lv_has ls 3 [(1, .int (zI (x1')))]), W p l e rmX0_leastY s m args below meth c H locs 0 0 Q (F0 m 39 ls [])) → W p l e rmX0_leastY s m args below meth c H locs 0 0 Q (F0 m 5 ls []) := by
    intro  n
    induction n with
    | zero => intro x1 x2 x1' x2' hz; exact (zlp_0 hz).elim
    | succ n ih =>
      intro x1 x2 x1' x2' hz σ H locs hH h_fd h_fd_cornerYs hbg ls hl kx
      obtain ⟨nx, hf, hnx⟩ := zlp_some hz
      have hf : f_X0_leastY_L5 fd_cornerYs fd_cornerCount x1 x2 = some nx := hf
      unfold f_X0_leastY_L5 at hf
      refine lv_iload_n hx hb dX0_leastY_5 rfl (lv_at hl 2 rfl) ?_
      refine lv_aload_n hx hb dX0_leastY_6 rfl (lv_at hl 0 rfl) ?_
      refine zget hx hb inlX0 rfl 7 rfl zk_t3_103 hts hown hK hH hk_fd h_fd rfl dX0_leastY_7 ?_
      obtain ⟨k1, hf⟩ := zck_some hf
      refine lz_icmp_ge (tgt := 39) hx hb k1 dX0_leastY_10 (by decide) (fun c2 => ?_) (fun c2 => ?_)
      · replace hf := (if_pos c2).symm.trans hf
        cases hf
        cases hnx
        exact kx _ _ _ hH h_fd h_fd_cornerYs hbg _ (lv_sub hl [1] rfl)
      · replace hf := (if_neg c2).symm.trans hf
        refine lv_iload_n hx hb dX0_leastY_13 rfl (lv_at hl 2 rfl) ?_
        refine lv_aload_n hx hb dX0_leastY_14 rfl (lv_at hl 0 rfl) ?_
        refine zget hx hb inlX0 rfl 4 rfl zk_t3_98 hts hown hK hH hk_fd h_fd rfl dX0_leastY_15 ?_
        refine zalen (z := 8) hx hb hK hH hk_fd_cornerYs 0 h_fd_cornerYs rfl (show Int32.ofNat 8 = zI 8 by decide +kernel) dX0_leastY_18 ?_
        obtain ⟨k3, hf⟩ := zck_some hf
        refine lz_icmp_ge (tgt := 39) hx hb ⟨k3, by decide⟩ dX0_leastY_19 (by decide) (fun c4 => ?_) (fun c4 => ?_)
        · replace hf := (if_pos c4).symm.trans hf
          cases hf
          cases hnx
          exact kx _ _ _ hH h_fd h_fd_cornerYs hbg _ (lv_sub hl [1] rfl)
        · replace hf := (if_neg c4).symm.trans hf
          refine lv_iload_n hx hb dX0_leastY_22 rfl (lv_at hl 1 rfl) ?_
          refine lv_aload_n hx hb dX0_leastY_23 rfl (lv_at hl 0 rfl) ?_
          refine zget hx hb inlX0 rfl 4 rfl zk_t3_98 hts hown hK hH hk_fd h_fd rfl dX0_leastY_24 ?_
          refine lv_iload_n hx hb dX0_leastY_27 rfl (lv_at hl 2 rfl) ?_
          obtain ⟨k5, hf⟩ := zck_some hf
          refine ziald hx hb hK hH hk_fd_cornerYs 0 h_fd_cornerYs rfl k5 rfl dX0_leastY_28 ?_
          obtain ⟨k6, hf⟩ := zck_some hf
          refine lz_mmin hx hb (hml.trans hl.1.symm) hown hts zk_t2_9 zk_t2_10 zk_t1_6 zk_t2_11 ⟨Nat.le_of_ble_eq_true rfl, Nat.le_of_ble_eq_true rfl⟩ ⟨Nat.zero_le _, Nat.zero_le _⟩ k6 dX0_leastY_29 ?_
          obtain ⟨v7, ev7, hf⟩ := zlt_some hf
          refine lz_nm ev7 ?_
          refine lv_istore_n (lv' := [(1, .int (zI v7)), (0, .ref (ad o)), (2, .int (zI x2))]) hx hb dX0_leastY_32 rfl hl (by decide) rfl (fun ls hl => ?_)
          refine lz_iinc (lv' := [(2, .int (zI (x2 + 1))), (1, .int (zI v7)), (0, .ref (ad o))]) hx hb dX0_leastY_33 hl (j := 2) rfl (by decide) rfl (fun ls hl => ?_)
          refine lv_goto (tgt := 5) hx hb dX0_leastY_36 (by decide) ?_
          cases hf
          exact ih v7 (x2 + 1) _ _ hnx _ _ _ hH h_fd h_fd_cornerYs hbg _ (lv_sub hl [2, 1, 0] rfl) kx
  unfold f_X0_leastY at hf
  refine lv_bipush (v := zI 32) hx hb dX0_leastY_0 (by decide +kernel) ?_
  refine lv_istore_n (lv' := [(1, .int (zI 32)), (0, .ref (ad o))]) hx hb dX0_leastY_2 rfl hl (by decide) rfl (fun ls hl => ?_)
  refine lv_iconst (v := zI 0) hx hb dX0_leastY_3 (by decide +kernel) ?_
  refine lv_istore_n (lv' := [(2, .int (zI 0)), (1, .int (zI 32)), (0, .ref (ad o))]) hx hb dX0_leastY_4 rfl hl (by decide) rfl (fun ls hl => ?_)
  obtain ⟨w9, w10, k8, hf⟩ := zb2_some hf
  refine L5 zFU 32 0 w9 w10 k8 _ _ _ hH h_fd h_fd_cornerYs hbg _ (lv_sub hl [2, 1, 0] rfl) (fun σ11 Hσ11 lσ11 hH h_fd h_fd_cornerYs hbg ls hl => ?_)
  refine lv_iload_n hx hb dX0_leastY_39 rfl (lv_at hl 0 rfl) ?_
  cases hf
  exact zreti hx hb hr hlocks hQ hH ⟨rfl, hbg⟩ dX0_leastY_40
abbrev rmX0_greatestY : Room := { frames := 1, cells := 0, slots := 0, locals := 21 }
theorem hd_X0_greatestY : yX0_greatestY.cls = RX0 ∧ yX0_greatestY.cls ≠ "java/lang/invoke/MethodHandle" ∧ yX0_greatestY.cls ≠ "java/lang/invoke/VarHandle" ∧ (parseMethodDescriptor yX0_greatestY.desc).map (fun d => d.parameters.length) = some 0 := by decide +kernel
set_option maxHeartbeats 4000000 in
set_option maxRecDepth 100000 in
theorem c_X0_greatestY {l : Launch} {D : va_G} {cI cZ cF cL cD : ClassId} {ad : Nat → Nat} {N : Nat} (hI : ∀ i j, i < N → j < N → ad i = ad j → i = j) (hN : 19 ≤ N) {o : Nat} (ho : 19 ≤ o ∧ o + 7 ≤ N) {σ0 : Nat → va_E} {sz : Nat} {fd_colour : Int} {fd_layer : Int} {fd_column : Int} {fd_cornerYs : Int → Int} {fd_cornerCount : Int} {fd_crossingCount : Int} {fd_density : Int} {fd_length : Int} {fd_shift : Int} {fd_pull : Int} {fd_underlay : Int} {fd_drawn : Int} {R0 : Int} (h_fd : σ0 o = oC_fd ad o fd_colour fd_layer fd_column fd_cornerCount fd_crossingCount fd_density fd_length fd_shift fd_pull fd_underlay fd_drawn) (h_fd_cornerYs : σ0 (o + 2) = .inl (cI, 8, .inl (zA fd_cornerYs))) (hf : f_X0_greatestY fd_cornerYs fd_cornerCount = some R0) :
    Met l yX0_greatestY (Cond.code yX0_greatestY cX0_greatestY 3 (some .int) :: wsL_law) rmX0_greatestY (zPre D ad N (zT cI cZ cF cL cD) σ0 sz [.ref (ad o)]) (zQi D ad N sz (fun r σ' => r = zI R0 ∧ σ' = σ0)) 0 0 (zFr ad N sz) := by
  refine zMet hI (plainFor_of_name (by decide)) (Nat.le_of_ble_eq_true rfl) ⟨rfl, rfl⟩ ?_
  intro p e s m args below meth c Q hx hb hr hlocks hml hown hts hK hsz hQ hH hA ls hl
  subst hsz
  have hk_fd : o < N := by omega
  have hk_fd_cornerYs : (o + 2) < N := by omega
  have hl : lv_has ls 3 [(0, .ref (ad o))] := hl
  have hbg : σ0 = σ0 := rfl
  have L4 : ∀   (n : Nat) (x1 : Int) (x2 : Int) (x1' : Int) (x2' : Int), zlp (fun z => f_X0_greatestY_L4 fd_cornerYs fd_cornerCount z.1 z.2) n (x1, x2) = some (x1', x2') → ∀ (σ : Nat → va_E) (H : Heap) (locs : List Loc) (hH : zH D ad N (zFr ad N s.heap.size) s.heap σ H locs) (h_fd : σ o = oC_fd ad o fd_colour fd_layer fd_column fd_cornerCount fd_crossingCount fd_density fd_length fd_shift fd_pull fd_underlay fd_drawn) (h_fd_cornerYs : σ (o + 2) = .inl (cI, 8, .inl (zA fd_cornerYs))) (hbg : σ = σ0) (ls : Array Slot) (hl : lv_has ls 3 [(0, .ref (ad o)), (1, .int (zI x1)), (2, .int (zI x2))]), (∀ (σ : Nat → va_E) (H : Heap) (locs : List Loc) (hH : zH D ad N (zFr ad N s.heap.size) s.heap σ H locs) (h_fd : σ o = oC_fd ad o fd_colour fd_layer fd_column fd_cornerCount fd_crossingCount fd_density fd_length fd_shift fd_pull fd_underlay fd_drawn) (h_fd_cornerYs : σ (o + 2) = .inl (cI, 8, .inl (zA fd_cornerYs))) (hbg : σ = σ0) (ls : Array Slot) (hl : lv_has ls 3 [(1, .int (zI (x1')))]), W p l e rmX0_greatestY s m args below meth c H locs 0 0 Q (F0 m 38 ls [])) → W p l e rmX0_greatestY s m args below meth c H locs 0 0 Q (F0 m 4 ls []) := by
    intro  n
    induction n with
    | zero => intro x1 x2 x1' x2' hz; exact (zlp_0 hz).elim
    | succ n ih =>
      intro x1 x2 x1' x2' hz σ H locs hH h_fd h_fd_cornerYs hbg ls hl kx
      obtain ⟨nx, hf, hnx⟩ := zlp_some hz
      have hf : f_X0_greatestY_L4 fd_cornerYs fd_cornerCount x1 x2 = some nx := hf
      unfold f_X0_greatestY_L4 at hf
      refine lv_iload_n hx hb dX0_greatestY_4 rfl (lv_at hl 2 rfl) ?_
      refine lv_aload_n hx hb dX0_greatestY_5 rfl (lv_at hl 0 rfl) ?_
      refine zget hx hb inlX0 rfl 7 rfl zk_t3_103 hts hown hK hH hk_fd h_fd rfl dX0_greatestY_6 ?_
      obtain ⟨k1, hf⟩ := zck_some hf
      refine lz_icmp_ge (tgt := 38) hx hb k1 dX0_greatestY_9 (by decide) (fun c2 => ?_) (fun c2 => ?_)
      · replace hf := (if_pos c2).symm.trans hf
        cases hf
        cases hnx
        exact kx _ _ _ hH h_fd h_fd_cornerYs hbg _ (lv_sub hl [1] rfl)
      · replace hf := (if_neg c2).symm.trans hf
        refine lv_iload_n hx hb dX0_greatestY_12 rfl (lv_at hl 2 rfl) ?_
        refine lv_aload_n hx hb dX0_greatestY_13 rfl (lv_at hl 0 rfl) ?_
        refine zget hx hb inlX0 rfl 4 rfl zk_t3_98 hts hown hK hH hk_fd h_fd rfl dX0_greatestY_14 ?_
        refine zalen (z := 8) hx hb hK hH hk_fd_cornerYs 0 h_fd_cornerYs rfl (show Int32.ofNat 8 = zI 8 by decide +kernel) dX0_greatestY_17 ?_
        obtain ⟨k3, hf⟩ := zck_some hf
        refine lz_icmp_ge (tgt := 38) hx hb ⟨k3, by decide⟩ dX0_greatestY_18 (by decide) (fun c4 => ?_) (fun c4 => ?_)
        · replace hf := (if_pos c4).symm.trans hf
          cases hf
          cases hnx
          exact kx _ _ _ hH h_fd h_fd_cornerYs hbg _ (lv_sub hl [1] rfl)
        · replace hf := (if_neg c4).symm.trans hf
          refine lv_iload_n hx hb dX0_greatestY_21 rfl (lv_at hl 1 rfl) ?_
          refine lv_aload_n hx hb dX0_greatestY_22 rfl (lv_at hl 0 rfl) ?_
          refine zget hx hb inlX0 rfl 4 rfl zk_t3_98 hts hown hK hH hk_fd h_fd rfl dX0_greatestY_23 ?_
          refine lv_iload_n hx hb dX0_greatestY_26 rfl (lv_at hl 2 rfl) ?_
          obtain ⟨k5, hf⟩ := zck_some hf
          refine ziald hx hb hK hH hk_fd_cornerYs 0 h_fd_cornerYs rfl k5 rfl dX0_greatestY_27 ?_
          obtain ⟨k6, hf⟩ := zck_some hf
          refine lz_mmax hx hb (hml.trans hl.1.symm) hown hts zk_t1_215 zk_t1_213 zk_t1_6 zk_t1_214 ⟨Nat.le_of_ble_eq_true rfl, Nat.le_of_ble_eq_true rfl⟩ ⟨Nat.zero_le _, Nat.zero_le _⟩ k6 dX0_greatestY_28 ?_
          obtain ⟨v7, ev7, hf⟩ := zlt_some hf
          refine lz_nm ev7 ?_
          refine lv_istore_n (lv' := [(1, .int (zI v7)), (0, .ref (ad o)), (2, .int (zI x2))]) hx hb dX0_greatestY_31 rfl hl (by decide) rfl (fun ls hl => ?_)
          refine lz_iinc (lv' := [(2, .int (zI (x2 + 1))), (1, .int (zI v7)), (0, .ref (ad o))]) hx hb dX0_greatestY_32 hl (j := 2) rfl (by decide) rfl (fun ls hl => ?_)
          refine lv_goto (tgt := 4) hx hb dX0_greatestY_35 (by decide) ?_
          cases hf
          exact ih v7 (x2 + 1) _ _ hnx _ _ _ hH h_fd h_fd_cornerYs hbg _ (lv_sub hl [2, 1, 0] rfl) kx
  unfold f_X0_greatestY at hf
  refine lv_iconst (v := zI 0) hx hb dX0_greatestY_0 (by decide +kernel) ?_
  refine lv_istore_n (lv' := [(1, .int (zI 0)), (0, .ref (ad o))]) hx hb dX0_greatestY_1 rfl hl (by decide) rfl (fun ls hl => ?_)
  refine lv_iconst (v := zI 0) hx hb dX0_greatestY_2 (by decide +kernel) ?_
  refine lv_istore_n (lv' := [(2, .int (zI 0)), (1, .int (zI 0)), (0, .ref (ad o))]) hx hb dX0_greatestY_3 rfl hl (by decide) rfl (fun ls hl => ?_)
  obtain ⟨w9, w10, k8, hf⟩ := zb2_some hf
  refine L4 zFU 0 0 w9 w10 k8 _ _ _ hH h_fd h_fd_cornerYs hbg _ (lv_sub hl [2, 1, 0] rfl) (fun σ11 Hσ11 lσ11 hH h_fd h_fd_cornerYs hbg ls hl => ?_)
  refine lv_iload_n hx hb dX0_greatestY_38 rfl (lv_at hl 0 rfl) ?_
  cases hf
  exact zreti hx hb hr hlocks hQ hH ⟨rfl, hbg⟩ dX0_greatestY_39
abbrev rmX0_putCrossing : Room := { frames := 0, cells := 0, slots := 0, locals := 0 }
theorem hd_X0_putCrossing : yX0_putCrossing.cls = RX0 ∧ yX0_putCrossing.cls ≠ "java/lang/invoke/MethodHandle" ∧ yX0_putCrossing.cls ≠ "java/lang/invoke/VarHandle" ∧ (parseMethodDescriptor yX0_putCrossing.desc).map (fun d => d.parameters.length) = some 1 := by decide +kernel
set_option maxHeartbeats 4000000 in
set_option maxRecDepth 100000 in
theorem c_X0_putCrossing {l : Launch} {D : va_G} {cI cZ cF cL cD : ClassId} {ad : Nat → Nat} {N : Nat} (hI : ∀ i j, i < N → j < N → ad i = ad j → i = j) (hN : 19 ≤ N) {o : Nat} (ho : 19 ≤ o ∧ o + 7 ≤ N) {σ0 : Nat → va_E} {sz : Nat} {fd_colour : Int} {fd_layer : Int} {fd_column : Int} {fd_crossings : Int → Int} {fd_cornerCount : Int} {fd_crossingCount : Int} {fd_density : Int} {fd_length : Int} {fd_shift : Int} {fd_pull : Int} {fd_underlay : Int} {fd_drawn : Int} {p1 : Int} {R_fd_crossings : Int → Int} {R_fd_crossingCount : Int} (h_fd : σ0 o = oC_fd ad o fd_colour fd_layer fd_column fd_cornerCount fd_crossingCount fd_density fd_length fd_shift fd_pull fd_underlay fd_drawn) (h_fd_crossings : σ0 (o + 3) = .inl (cI, 8, .inl (zA fd_crossings))) (hf : f_X0_putCrossing fd_crossings fd_crossingCount p1 = some (R_fd_crossings, R_fd_crossingCount)) :
    Met l yX0_putCrossing (Cond.code yX0_putCrossing cX0_putCrossing 3 none :: wsL_law) rmX0_putCrossing (zPre D ad N (zT cI cZ cF cL cD) σ0 sz [.ref (ad o), .int (zI p1)]) (zQv D ad N sz (fun σ' => σ' o = oC_fd ad o fd_colour fd_layer fd_column fd_cornerCount R_fd_crossingCount fd_density fd_length fd_shift fd_pull fd_underlay fd_drawn ∧ σ' (o + 3) = .inl (cI, 8, .inl (zA R_fd_crossings)) ∧ ∀ i : Nat, i ≠ o → i ≠ (o + 3) → σ' i = σ0 i)) 0 0 (zFr ad N sz) := by
  refine zMet hI (plainFor_of_name (by decide)) (Nat.le_of_ble_eq_true rfl) ⟨rfl, rfl⟩ ?_
  intro p e s m args below meth c Q hx hb hr hlocks hml hown hts hK hsz hQ hH hA ls hl
  subst hsz
  have hk_fd : o < N := by omega
  have hk_fd_crossings : (o + 3) < N := by omega
  have hl : lv_has ls 3 [(0, .ref (ad o)), (1, .int (zI p1))] := hl
  have hbg : ∀ i : Nat, i ≠ o → i ≠ (o + 3) → σ0 i = σ0 i := fun _ _ _ => rfl
  have J51 : ∀ (fd_crossings : Int → Int) (fd_crossingCount : Int) (x1 : Int) (x2 : Int) (σ : Nat → va_E) (H : Heap) (locs : List Loc) (hH : zH D ad N (zFr ad N s.heap.size) s.heap σ H locs) (h_fd : σ o = oC_fd ad o fd_colour fd_layer fd_column fd_cornerCount fd_crossingCount fd_density fd_length fd_shift fd_pull fd_underlay fd_drawn) (h_fd_crossings : σ (o + 3) = .inl (cI, 8, .inl (zA fd_crossings))) (hbg : ∀ i : Nat, i ≠ o → i ≠ (o + 3) → σ i = σ0 i) (ls : Array Slot) (hl : lv_has ls 3 [(0, .ref (ad o)), (1, .int (zI x1)), (2, .int (zI x2))]), f_X0_putCrossing_51 fd_crossings fd_crossingCount x1 x2 = some (R_fd_crossings, R_fd_crossingCount) → W p l e rmX0_putCrossing s m args below meth c H locs 0 0 Q (F0 m 51 ls []) := by
    intro fd_crossings fd_crossingCount x1 x2 σ H locs hH h_fd h_fd_crossings hbg ls hl hf
    unfold f_X0_putCrossing_51 at hf
    refine lv_aload_n hx hb dX0_putCrossing_51 rfl (lv_at hl 0 rfl) ?_
    refine zget hx hb inlX0 rfl 5 rfl zk_t3_99 hts hown hK hH hk_fd h_fd rfl dX0_putCrossing_52 ?_
    refine lv_iload_n hx hb dX0_putCrossing_55 rfl (lv_at hl 2 rfl) ?_
    refine lv_iload_n hx hb dX0_putCrossing_56 rfl (lv_at hl 1 rfl) ?_
    obtain ⟨k1, hf⟩ := zck_some hf
    obtain ⟨a3, ea3, hf⟩ := zlt_some hf
    refine ziast hx hb hK hH hk_fd_crossings 0 h_fd_crossings rfl k1 rfl dX0_putCrossing_57 (fun σ2 Hσ2 lσ2 h_fd_crossings hn hH => ?_)
    rw [← ea3] at h_fd_crossings
    have h_fd := (hn o (by omega)).trans h_fd
    have hbg : ∀ i : Nat, i ≠ o → i ≠ (o + 3) → σ2 i = σ0 i := fun i a0 a1 => (hn i a1).trans (hbg i a0 a1)
    refine lv_aload_n hx hb dX0_putCrossing_58 rfl (lv_at hl 0 rfl) ?_
    refine lv_dup hx hb dX0_putCrossing_59 rfl ?_
    refine zget hx hb inlX0 rfl 8 rfl zk_t3_105 hts hown hK hH hk_fd h_fd rfl dX0_putCrossing_60 ?_
    refine lv_iconst (v := zI 1) hx hb dX0_putCrossing_63 (by decide +kernel) ?_
    refine lz_iadd hx hb dX0_putCrossing_64 ?_
    obtain ⟨v4, ev4, hf⟩ := zlt_some hf
    refine lz_nm ev4 ?_
    refine zput hx hb inlX0 tyX0 tyX0_ok nmX0 rfl 8 rfl zk_t3_105 rfl hts hown hK hH hk_fd h_fd rfl rfl rfl dX0_putCrossing_65 (fun σ5 Hσ5 lσ5 h_fd hn hH => ?_)
    have h_fd : σ5 o = oC_fd ad o fd_colour fd_layer fd_column fd_cornerCount v4 fd_density fd_length fd_shift fd_pull fd_underlay fd_drawn := h_fd
    have h_fd_crossings := (hn (o + 3) (by omega)).trans h_fd_crossings
    have hbg : ∀ i : Nat, i ≠ o → i ≠ (o + 3) → σ5 i = σ0 i := fun i a0 a1 => (hn i a0).trans (hbg i a0 a1)
    cases hf
    exact zretv hx hb hr hlocks hQ hH ⟨h_fd, h_fd_crossings, hbg⟩ dX0_putCrossing_68
  have L15 : ∀ (fd_crossingCount : Int) (x1 : Int)  (n : Nat) (x2 : Int) (fd_crossings : Int → Int) (x2' : Int) (fd_crossings' : Int → Int), zlp (fun z => f_X0_putCrossing_L15 fd_crossingCount x1 z.1 z.2) n (x2, fd_crossings) = some (x2', fd_crossings') → ∀ (σ : Nat → va_E) (H : Heap) (locs : List Loc) (hH : zH D ad N (zFr ad N s.heap.size) s.heap σ H locs) (h_fd : σ o = oC_fd ad o fd_colour fd_layer fd_column fd_cornerCount fd_crossingCount fd_density fd_length fd_shift fd_pull fd_underlay fd_drawn) (h_fd_crossings : σ (o + 3) = .inl (cI, 8, .inl (zA fd_crossings))) (hbg : ∀ i : Nat, i ≠ o → i ≠ (o + 3) → σ i = σ0 i) (ls : Array Slot) (hl : lv_has ls 3 [(0, .ref (ad o)), (1, .int (zI x1)), (2, .int (zI x2))]), (∀ (σ : Nat → va_E) (H : Heap) (locs : List Loc) (hH : zH D ad N (zFr ad N s.heap.size) s.heap σ H locs) (h_fd : σ o = oC_fd ad o fd_colour fd_layer fd_column fd_cornerCount fd_crossingCount fd_density fd_length fd_shift fd_pull fd_underlay fd_drawn) (h_fd_crossings : σ (o + 3) = .inl (cI, 8, .inl (zA (fd_crossings')))) (hbg : ∀ i : Nat, i ≠ o → i ≠ (o + 3) → σ i = σ0 i) (ls : Array Slot) (hl : lv_has ls 3 [(0, .ref (ad o)), (1, .int (zI x1)), (2, .int (zI (x2')))]), W p l e rmX0_putCrossing s m args below meth c H locs 0 0 Q (F0 m 51 ls [])) → W p l e rmX0_putCrossing s m args below meth c H locs 0 0 Q (F0 m 15 ls []) := by
    intro fd_crossingCount x1 n
    induction n with
    | zero => intro x2 fd_crossings x2' fd_crossings' hz; exact (zlp_0 hz).elim
    | succ n ih =>
      intro x2 fd_crossings x2' fd_crossings' hz σ H locs hH h_fd h_fd_crossings hbg ls hl kx
      obtain ⟨nx, hf, hnx⟩ := zlp_some hz
      have hf : f_X0_putCrossing_L15 fd_crossingCount x1 x2 fd_crossings = some nx := hf
      unfold f_X0_putCrossing_L15 at hf
      refine lv_iload_n hx hb dX0_putCrossing_15 rfl (lv_at hl 2 rfl) ?_
      obtain ⟨k6, hf⟩ := zck_some hf
      refine lz_if_le (tgt := 51) hx hb k6 dX0_putCrossing_16 (by decide) (fun c7 => ?_) (fun c7 => ?_)
      · replace hf := (if_pos c7).symm.trans hf
        cases hf
        cases hnx
        exact kx _ _ _ hH h_fd h_fd_crossings hbg _ (lv_sub hl [0, 1, 2] rfl)
      · replace hf := (if_neg c7).symm.trans hf
        refine lv_aload_n hx hb dX0_putCrossing_19 rfl (lv_at hl 0 rfl) ?_
        refine zget hx hb inlX0 rfl 5 rfl zk_t3_99 hts hown hK hH hk_fd h_fd rfl dX0_putCrossing_20 ?_
        refine lv_iload_n hx hb dX0_putCrossing_23 rfl (lv_at hl 2 rfl) ?_
        refine lv_iconst (v := zI 1) hx hb dX0_putCrossing_24 (by decide +kernel) ?_
        refine lz_isub hx hb dX0_putCrossing_25 ?_
        obtain ⟨k8, hf⟩ := zck_some hf
        refine ziald hx hb hK hH hk_fd_crossings 0 h_fd_crossings rfl k8 rfl dX0_putCrossing_26 ?_
        refine lv_iload_n hx hb dX0_putCrossing_27 rfl (lv_at hl 1 rfl) ?_
        obtain ⟨k9, hf⟩ := zck_some hf
        refine lz_icmp_le (tgt := 51) hx hb k9 dX0_putCrossing_28 (by decide) (fun c10 => ?_) (fun c10 => ?_)
        · replace hf := (if_pos c10).symm.trans hf
          cases hf
          cases hnx
          exact kx _ _ _ hH h_fd h_fd_crossings hbg _ (lv_sub hl [0, 1, 2] rfl)
        · replace hf := (if_neg c10).symm.trans hf
          refine lv_aload_n hx hb dX0_putCrossing_31 rfl (lv_at hl 0 rfl) ?_
          refine zget hx hb inlX0 rfl 5 rfl zk_t3_99 hts hown hK hH hk_fd h_fd rfl dX0_putCrossing_32 ?_
          refine lv_iload_n hx hb dX0_putCrossing_35 rfl (lv_at hl 2 rfl) ?_
          refine lv_aload_n hx hb dX0_putCrossing_36 rfl (lv_at hl 0 rfl) ?_
          refine zget hx hb inlX0 rfl 5 rfl zk_t3_99 hts hown hK hH hk_fd h_fd rfl dX0_putCrossing_37 ?_
          refine lv_iload_n hx hb dX0_putCrossing_40 rfl (lv_at hl 2 rfl) ?_
          refine lv_iconst (v := zI 1) hx hb dX0_putCrossing_41 (by decide +kernel) ?_
          refine lz_isub hx hb dX0_putCrossing_42 ?_
          obtain ⟨k11, hf⟩ := zck_some hf
          refine ziald hx hb hK hH hk_fd_crossings 0 h_fd_crossings rfl k11 rfl dX0_putCrossing_43 ?_
          obtain ⟨k12, hf⟩ := zck_some hf
          obtain ⟨a14, ea14, hf⟩ := zlt_some hf
          refine ziast hx hb hK hH hk_fd_crossings 0 h_fd_crossings rfl k12 rfl dX0_putCrossing_44 (fun σ13 Hσ13 lσ13 h_fd_crossings hn hH => ?_)
          rw [← ea14] at h_fd_crossings
          have h_fd := (hn o (by omega)).trans h_fd
          have hbg : ∀ i : Nat, i ≠ o → i ≠ (o + 3) → σ13 i = σ0 i := fun i a0 a1 => (hn i a1).trans (hbg i a0 a1)
          refine lz_iinc (lv' := [(2, .int (zI (x2 + (-1)))), (0, .ref (ad o)), (1, .int (zI x1))]) hx hb dX0_putCrossing_45 hl (j := 2) rfl (by decide) rfl (fun ls hl => ?_)
          refine lv_goto (tgt := 15) hx hb dX0_putCrossing_48 (by decide) ?_
          cases hf
          exact ih (x2 + (-1)) a14 _ _ hnx _ _ _ hH h_fd h_fd_crossings hbg _ (lv_sub hl [1, 2, 0] rfl) kx
  unfold f_X0_putCrossing at hf
  refine lv_aload_n hx hb dX0_putCrossing_0 rfl (lv_at hl 0 rfl) ?_
  refine zget hx hb inlX0 rfl 8 rfl zk_t3_105 hts hown hK hH hk_fd h_fd rfl dX0_putCrossing_1 ?_
  refine lv_istore_n (lv' := [(2, .int (zI fd_crossingCount)), (0, .ref (ad o)), (1, .int (zI p1))]) hx hb dX0_putCrossing_4 rfl hl (by decide) rfl (fun ls hl => ?_)
  refine lv_iload_n hx hb dX0_putCrossing_5 rfl (lv_at hl 0 rfl) ?_
  refine lv_aload_n hx hb dX0_putCrossing_6 rfl (lv_at hl 1 rfl) ?_
  refine zget hx hb inlX0 rfl 5 rfl zk_t3_99 hts hown hK hH hk_fd h_fd rfl dX0_putCrossing_7 ?_
  refine zalen (z := 8) hx hb hK hH hk_fd_crossings 0 h_fd_crossings rfl (show Int32.ofNat 8 = zI 8 by decide +kernel) dX0_putCrossing_10 ?_
  obtain ⟨k15, hf⟩ := zck_some hf
  refine lz_icmp_lt (tgt := 15) hx hb ⟨k15, by decide⟩ dX0_putCrossing_11 (by decide) (fun c16 => ?_) (fun c16 => ?_)
  · replace hf := (if_pos c16).symm.trans hf
    obtain ⟨w18, w19, k17, hf⟩ := zb2_some hf
    refine L15 fd_crossingCount p1 zFU fd_crossingCount fd_crossings w18 w19 k17 _ _ _ hH h_fd h_fd_crossings hbg _ (lv_sub hl [1, 2, 0] rfl) (fun σ20 Hσ20 lσ20 hH h_fd h_fd_crossings hbg ls hl => ?_)
    exact J51 w19 fd_crossingCount p1 w18 _ _ _ hH h_fd h_fd_crossings hbg _ (lv_sub hl [0, 1, 2] rfl) hf
  · replace hf := (if_neg c16).symm.trans hf
    cases hf
    exact zretv hx hb hr hlocks hQ hH ⟨h_fd, h_fd_crossings, hbg⟩ dX0_putCrossing_14
abbrev rmX0_cross : Room := { frames := 1, cells := 0, slots := 0, locals := 22 }
theorem hd_X0_cross : yX0_cross.cls = RX0 ∧ yX0_cross.cls ≠ "java/lang/invoke/MethodHandle" ∧ yX0_cross.cls ≠ "java/lang/invoke/VarHandle" ∧ (parseMethodDescriptor yX0_cross.desc).map (fun d => d.parameters.length) = some 1 := by decide +kernel
set_option maxHeartbeats 4000000 in
set_option maxRecDepth 100000 in
theorem c_X0_cross {l : Launch} {D : va_G} {cI cZ cF cL cD : ClassId} {ad : Nat → Nat} {N : Nat} (hI : ∀ i j, i < N → j < N → ad i = ad j → i = j) (hN : 19 ≤ N) {o : Nat} (ho : 19 ≤ o ∧ o + 7 ≤ N) {σ0 : Nat → va_E} {sz : Nat} {fd_colour : Int} {fd_layer : Int} {fd_column : Int} {fd_cornerXs : Int → Int} {fd_cornerYs : Int → Int} {fd_crossings : Int → Int} {fd_cornerCount : Int} {fd_crossingCount : Int} {fd_density : Int} {fd_length : Int} {fd_shift : Int} {fd_pull : Int} {fd_underlay : Int} {fd_drawn : Int} {p1 : Int} {R_fd_crossings : Int → Int} {R_fd_crossingCount : Int} (h_fd : σ0 o = oC_fd ad o fd_colour fd_layer fd_column fd_cornerCount fd_crossingCount fd_density fd_length fd_shift fd_pull fd_underlay fd_drawn) (h_fd_cornerXs : σ0 (o + 1) = .inl (cI, 8, .inl (zA fd_cornerXs))) (h_fd_cornerYs : σ0 (o + 2) = .inl (cI, 8, .inl (zA fd_cornerYs))) (h_fd_crossings : σ0 (o + 3) = .inl (cI, 8, .inl (zA fd_crossings))) (hf : f_X0_cross fd_cornerXs fd_cornerYs fd_crossings fd_cornerCount fd_crossingCount p1 = some (R_fd_crossings, R_fd_crossingCount)) :
    Met l yX0_cross (Cond.code yX0_cross cX0_cross 7 none :: wsL_law) rmX0_cross (zPre D ad N (zT cI cZ cF cL cD) σ0 sz [.ref (ad o), .int (zI p1)]) (zQv D ad N sz (fun σ' => σ' o = oC_fd ad o fd_colour fd_layer fd_column fd_cornerCount R_fd_crossingCount fd_density fd_length fd_shift fd_pull fd_underlay fd_drawn ∧ σ' (o + 3) = .inl (cI, 8, .inl (zA R_fd_crossings)) ∧ ∀ i : Nat, i ≠ o → i ≠ (o + 3) → σ' i = σ0 i)) 0 0 (zFr ad N sz) := by
  refine zMet hI (plainFor_of_name (by decide)) (Nat.le_of_ble_eq_true rfl) ⟨rfl, rfl⟩ ?_
  intro p e s m args below meth c Q hx hb hr hlocks hml hown hts hK hsz hQ hH hA ls hl
  subst hsz
  have hk_fd : o < N := by omega
  have hk_fd_cornerXs : (o + 1) < N := by omega
  have hk_fd_cornerYs : (o + 2) < N := by omega
  have hk_fd_crossings : (o + 3) < N := by omega
  have hl : lv_has ls 7 [(0, .ref (ad o)), (1, .int (zI p1))] := hl
  have hbg : ∀ i : Nat, i ≠ o → i ≠ (o + 3) → σ0 i = σ0 i := fun _ _ _ => rfl
  have L7 : ∀ (x1 : Int)  (n : Nat) (x2 : Int) (fd_crossings : Int → Int) (fd_crossingCount : Int) (res : ((Int × (Int → Int) × Int) ⊕ ((Int → Int) × Int))), zlp (fun z => f_X0_cross_L7 fd_cornerXs fd_cornerYs fd_cornerCount x1 z.1 z.2.1 z.2.2) n (x2, fd_crossings, fd_crossingCount) = some res → ∀ (σ : Nat → va_E) (H : Heap) (locs : List Loc) (hH : zH D ad N (zFr ad N s.heap.size) s.heap σ H locs) (h_fd : σ o = oC_fd ad o fd_colour fd_layer fd_column fd_cornerCount fd_crossingCount fd_density fd_length fd_shift fd_pull fd_underlay fd_drawn) (h_fd_cornerXs : σ (o + 1) = .inl (cI, 8, .inl (zA fd_cornerXs))) (h_fd_cornerYs : σ (o + 2) = .inl (cI, 8, .inl (zA fd_cornerYs))) (h_fd_crossings : σ (o + 3) = .inl (cI, 8, .inl (zA fd_crossings))) (hbg : ∀ i : Nat, i ≠ o → i ≠ (o + 3) → σ i = σ0 i) (ls : Array Slot) (hl : lv_has ls 7 [(0, .ref (ad o)), (1, .int (zI x1)), (2, .int (zI x2))]), (∀ (x2' : Int) (fd_crossings' : Int → Int) (fd_crossingCount' : Int), res = .inl (x2', fd_crossings', fd_crossingCount') → ∀ (σ : Nat → va_E) (H : Heap) (locs : List Loc) (hH : zH D ad N (zFr ad N s.heap.size) s.heap σ H locs) (h_fd : σ o = oC_fd ad o fd_colour fd_layer fd_column fd_cornerCount (fd_crossingCount') fd_density fd_length fd_shift fd_pull fd_underlay fd_drawn) (h_fd_cornerXs : σ (o + 1) = .inl (cI, 8, .inl (zA fd_cornerXs))) (h_fd_cornerYs : σ (o + 2) = .inl (cI, 8, .inl (zA fd_cornerYs))) (h_fd_crossings : σ (o + 3) = .inl (cI, 8, .inl (zA (fd_crossings')))) (hbg : ∀ i : Nat, i ≠ o → i ≠ (o + 3) → σ i = σ0 i) (ls : Array Slot) (hl : lv_has ls 7 []), W p l e rmX0_cross s m args below meth c H locs 0 0 Q (F0 m 150 ls [])) → (∀ b, res = .inr b → some b = some (R_fd_crossings, R_fd_crossingCount)) → W p l e rmX0_cross s m args below meth c H locs 0 0 Q (F0 m 7 ls []) := by
    intro x1 n
    induction n with
    | zero => intro x2 fd_crossings fd_crossingCount res hz; exact (zlp_0 hz).elim
    | succ n ih =>
      intro x2 fd_crossings fd_crossingCount res hz σ H locs hH h_fd h_fd_cornerXs h_fd_cornerYs h_fd_crossings hbg ls hl kx kr
      obtain ⟨nx, hf, hnx⟩ := zlp_some hz
      have hf : f_X0_cross_L7 fd_cornerXs fd_cornerYs fd_cornerCount x1 x2 fd_crossings fd_crossingCount = some nx := hf
      unfold f_X0_cross_L7 at hf
      refine lv_iload_n hx hb dX0_cross_7 rfl (lv_at hl 2 rfl) ?_
      refine lv_aload_n hx hb dX0_cross_8 rfl (lv_at hl 0 rfl) ?_
      refine zget hx hb inlX0 rfl 7 rfl zk_t3_103 hts hown hK hH hk_fd h_fd rfl dX0_cross_9 ?_
      obtain ⟨k1, hf⟩ := zck_some hf
      refine lz_icmp_ge (tgt := 150) hx hb k1 dX0_cross_12 (by decide) (fun c2 => ?_) (fun c2 => ?_)
      · replace hf := (if_pos c2).symm.trans hf
        cases hf
        exact kx x2 fd_crossings fd_crossingCount hnx.symm _ _ _ hH h_fd h_fd_cornerXs h_fd_cornerYs h_fd_crossings hbg _ (lv_sub hl [] rfl)
      · replace hf := (if_neg c2).symm.trans hf
        refine lv_iload_n hx hb dX0_cross_15 rfl (lv_at hl 2 rfl) ?_
        refine lv_aload_n hx hb dX0_cross_16 rfl (lv_at hl 0 rfl) ?_
        refine zget hx hb inlX0 rfl 3 rfl zk_t3_97 hts hown hK hH hk_fd h_fd rfl dX0_cross_17 ?_
        refine zalen (z := 8) hx hb hK hH hk_fd_cornerXs 0 h_fd_cornerXs rfl (show Int32.ofNat 8 = zI 8 by decide +kernel) dX0_cross_20 ?_
        obtain ⟨k3, hf⟩ := zck_some hf
        refine lz_icmp_ge (tgt := 150) hx hb ⟨k3, by decide⟩ dX0_cross_21 (by decide) (fun c4 => ?_) (fun c4 => ?_)
        · replace hf := (if_pos c4).symm.trans hf
          cases hf
          exact kx x2 fd_crossings fd_crossingCount hnx.symm _ _ _ hH h_fd h_fd_cornerXs h_fd_cornerYs h_fd_crossings hbg _ (lv_sub hl [] rfl)
        · replace hf := (if_neg c4).symm.trans hf
          refine lv_iload_n hx hb dX0_cross_24 rfl (lv_at hl 2 rfl) ?_
          refine lv_aload_n hx hb dX0_cross_25 rfl (lv_at hl 0 rfl) ?_
          refine zget hx hb inlX0 rfl 4 rfl zk_t3_98 hts hown hK hH hk_fd h_fd rfl dX0_cross_26 ?_
          refine zalen (z := 8) hx hb hK hH hk_fd_cornerYs 0 h_fd_cornerYs rfl (show Int32.ofNat 8 = zI 8 by decide +kernel) dX0_cross_29 ?_
          obtain ⟨k5, hf⟩ := zck_some hf
          refine lz_icmp_ge (tgt := 150) hx hb ⟨k5, by decide⟩ dX0_cross_30 (by decide) (fun c6 => ?_) (fun c6 => ?_)
          · replace hf := (if_pos c6).symm.trans hf
            cases hf
            exact kx x2 fd_crossings fd_crossingCount hnx.symm _ _ _ hH h_fd h_fd_cornerXs h_fd_cornerYs h_fd_crossings hbg _ (lv_sub hl [] rfl)
          · replace hf := (if_neg c6).symm.trans hf
            refine lv_aload_n hx hb dX0_cross_33 rfl (lv_at hl 0 rfl) ?_
            refine lv_iload_n hx hb dX0_cross_34 rfl (lv_at hl 2 rfl) ?_
            obtain ⟨r7, k8, hf⟩ := zb1_some hf
            refine zcVi (C := RX0) (As := [.int (zI x2)]) (rest := []) hx hb hml hown hts hl.1 hK hH hA (c_X0_cornerBehind hI hN ho h_fd k8) zk_t1_230 zk_t1_232 zk_s1_3 zk_t1_13 zk_t1_233 hd_X0_cornerBehind rfl ⟨rfl, rfl, Nat.le_of_ble_eq_true rfl, Nat.le_of_ble_eq_true rfl⟩ ⟨Nat.zero_le _, Nat.zero_le _⟩ hk_fd h_fd rfl rfl rfl (Nat.le_of_ble_eq_true rfl) dX0_cross_35 (fun q10 σ9 Hσ9 lσ9 hp hH => ?_)
            obtain ⟨hr1, hs1⟩ := hp; subst hr1; rw [hs1] at hH
            refine lv_istore_n (lv' := [(3, .int (zI r7)), (0, .ref (ad o)), (1, .int (zI x1)), (2, .int (zI x2))]) hx hb dX0_cross_38 rfl hl (by decide) rfl (fun ls hl => ?_)
            refine lv_iload_n hx hb dX0_cross_39 rfl (lv_at hl 0 rfl) ?_
            refine lv_aload_n hx hb dX0_cross_40 rfl (lv_at hl 1 rfl) ?_
            refine zget hx hb inlX0 rfl 3 rfl zk_t3_97 hts hown hK hH hk_fd h_fd rfl dX0_cross_41 ?_
            refine zalen (z := 8) hx hb hK hH hk_fd_cornerXs 0 h_fd_cornerXs rfl (show Int32.ofNat 8 = zI 8 by decide +kernel) dX0_cross_44 ?_
            obtain ⟨k11, hf⟩ := zck_some hf
            refine lz_icmp_ge (tgt := 57) hx hb ⟨k11, by decide⟩ dX0_cross_45 (by decide) (fun c12 => ?_) (fun c12 => ?_)
            · replace hf := (if_pos c12).symm.trans hf
              cases hf
              replace hf := kr _ hnx.symm
              cases hf
              exact zretv hx hb hr hlocks hQ hH ⟨h_fd, h_fd_crossings, hbg⟩ dX0_cross_57
            · replace hf := (if_neg c12).symm.trans hf
              refine lv_iload_n hx hb dX0_cross_48 rfl (lv_at hl 0 rfl) ?_
              refine lv_aload_n hx hb dX0_cross_49 rfl (lv_at hl 1 rfl) ?_
              refine zget hx hb inlX0 rfl 4 rfl zk_t3_98 hts hown hK hH hk_fd h_fd rfl dX0_cross_50 ?_
              refine zalen (z := 8) hx hb hK hH hk_fd_cornerYs 0 h_fd_cornerYs rfl (show Int32.ofNat 8 = zI 8 by decide +kernel) dX0_cross_53 ?_
              obtain ⟨k13, hf⟩ := zck_some hf
              refine lz_icmp_lt (tgt := 58) hx hb ⟨k13, by decide⟩ dX0_cross_54 (by decide) (fun c14 => ?_) (fun c14 => ?_)
              · replace hf := (if_pos c14).symm.trans hf
                refine lv_aload_n hx hb dX0_cross_58 rfl (lv_at hl 1 rfl) ?_
                refine zget hx hb inlX0 rfl 4 rfl zk_t3_98 hts hown hK hH hk_fd h_fd rfl dX0_cross_59 ?_
                refine lv_iload_n hx hb dX0_cross_62 rfl (lv_at hl 3 rfl) ?_
                obtain ⟨k15, hf⟩ := zck_some hf
                refine ziald hx hb hK hH hk_fd_cornerYs 0 h_fd_cornerYs rfl k15 rfl dX0_cross_63 ?_
                obtain ⟨v16, ev16, hf⟩ := zlt_some hf
                refine lz_nm ev16 ?_
                refine lv_istore (lv' := [(4, .int (zI v16)), (3, .int (zI r7)), (0, .ref (ad o)), (1, .int (zI x1)), (2, .int (zI x2))]) hx hb dX0_cross_64 hl (by decide) rfl (fun ls hl => ?_)
                refine lv_aload_n hx hb dX0_cross_66 rfl (lv_at hl 2 rfl) ?_
                refine zget hx hb inlX0 rfl 4 rfl zk_t3_98 hts hown hK hH hk_fd h_fd rfl dX0_cross_67 ?_
                refine lv_iload_n hx hb dX0_cross_70 rfl (lv_at hl 1 rfl) ?_
                obtain ⟨k17, hf⟩ := zck_some hf
                refine ziald hx hb hK hH hk_fd_cornerYs 0 h_fd_cornerYs rfl k17 rfl dX0_cross_71 ?_
                obtain ⟨v18, ev18, hf⟩ := zlt_some hf
                refine lz_nm ev18 ?_
                refine lv_istore (lv' := [(5, .int (zI v18)), (4, .int (zI v16)), (3, .int (zI r7)), (0, .ref (ad o)), (1, .int (zI x1)), (2, .int (zI x2))]) hx hb dX0_cross_72 hl (by decide) rfl (fun ls hl => ?_)
                refine lv_iload hx hb dX0_cross_74 (lv_at hl 1 rfl) ?_
                refine lv_iload hx hb dX0_cross_76 (lv_at hl 0 rfl) ?_
                obtain ⟨k19, hf⟩ := zck_some hf
                refine lz_icmp_eq (tgt := 144) hx hb k19 dX0_cross_78 (by decide) (fun c20 => ?_) (fun c20 => ?_)
                · replace hf := (if_pos c20).symm.trans hf
                  refine lz_iinc (lv' := [(2, .int (zI (x2 + 1))), (5, .int (zI v18)), (4, .int (zI v16)), (3, .int (zI r7)), (0, .ref (ad o)), (1, .int (zI x1))]) hx hb dX0_cross_144 hl (j := 5) rfl (by decide) rfl (fun ls hl => ?_)
                  refine lv_goto (tgt := 7) hx hb dX0_cross_147 (by decide) ?_
                  cases hf
                  exact ih (x2 + 1) fd_crossings fd_crossingCount _ hnx _ _ _ hH h_fd h_fd_cornerXs h_fd_cornerYs h_fd_crossings hbg _ (lv_sub hl [4, 5, 0] rfl) kx kr
                · replace hf := (if_neg c20).symm.trans hf
                  refine lv_iload hx hb dX0_cross_81 (lv_at hl 1 rfl) ?_
                  refine lv_iload hx hb dX0_cross_83 (lv_at hl 0 rfl) ?_
                  obtain ⟨k21, hf⟩ := zck_some hf
                  refine lz_mmin hx hb (hml.trans hl.1.symm) hown hts zk_t2_9 zk_t2_10 zk_t1_6 zk_t2_11 ⟨Nat.le_of_ble_eq_true rfl, Nat.le_of_ble_eq_true rfl⟩ ⟨Nat.zero_le _, Nat.zero_le _⟩ k21 dX0_cross_85 ?_
                  refine lv_iload_n hx hb dX0_cross_88 rfl (lv_at hl 4 rfl) ?_
                  obtain ⟨k22, hf⟩ := zck_some hf
                  refine lz_icmp_gt (tgt := 144) hx hb k22 dX0_cross_89 (by decide) (fun c23 => ?_) (fun c23 => ?_)
                  · replace hf := (if_pos c23).symm.trans hf
                    refine lz_iinc (lv' := [(2, .int (zI (x2 + 1))), (5, .int (zI v18)), (4, .int (zI v16)), (3, .int (zI r7)), (0, .ref (ad o)), (1, .int (zI x1))]) hx hb dX0_cross_144 hl (j := 5) rfl (by decide) rfl (fun ls hl => ?_)
                    refine lv_goto (tgt := 7) hx hb dX0_cross_147 (by decide) ?_
                    cases hf
                    exact ih (x2 + 1) fd_crossings fd_crossingCount _ hnx _ _ _ hH h_fd h_fd_cornerXs h_fd_cornerYs h_fd_crossings hbg _ (lv_sub hl [4, 5, 0] rfl) kx kr
                  · replace hf := (if_neg c23).symm.trans hf
                    refine lv_iload_n hx hb dX0_cross_92 rfl (lv_at hl 4 rfl) ?_
                    refine lv_iload hx hb dX0_cross_93 (lv_at hl 1 rfl) ?_
                    refine lv_iload hx hb dX0_cross_95 (lv_at hl 0 rfl) ?_
                    obtain ⟨k24, hf⟩ := zck_some hf
                    refine lz_mmax hx hb (hml.trans hl.1.symm) hown hts zk_t1_215 zk_t1_213 zk_t1_6 zk_t1_214 ⟨Nat.le_of_ble_eq_true rfl, Nat.le_of_ble_eq_true rfl⟩ ⟨Nat.zero_le _, Nat.zero_le _⟩ k24 dX0_cross_97 ?_
                    obtain ⟨k25, hf⟩ := zck_some hf
                    refine lz_icmp_ge (tgt := 144) hx hb k25 dX0_cross_100 (by decide) (fun c26 => ?_) (fun c26 => ?_)
                    · replace hf := (if_pos c26).symm.trans hf
                      refine lz_iinc (lv' := [(2, .int (zI (x2 + 1))), (5, .int (zI v18)), (4, .int (zI v16)), (3, .int (zI r7)), (0, .ref (ad o)), (1, .int (zI x1))]) hx hb dX0_cross_144 hl (j := 5) rfl (by decide) rfl (fun ls hl => ?_)
                      refine lv_goto (tgt := 7) hx hb dX0_cross_147 (by decide) ?_
                      cases hf
                      exact ih (x2 + 1) fd_crossings fd_crossingCount _ hnx _ _ _ hH h_fd h_fd_cornerXs h_fd_cornerYs h_fd_crossings hbg _ (lv_sub hl [4, 5, 0] rfl) kx kr
                    · replace hf := (if_neg c26).symm.trans hf
                      refine lv_iload_n hx hb dX0_cross_103 rfl (lv_at hl 4 rfl) ?_
                      refine lv_iload hx hb dX0_cross_104 (lv_at hl 1 rfl) ?_
                      refine lz_isub hx hb dX0_cross_106 ?_
                      refine lv_aload_n hx hb dX0_cross_107 rfl (lv_at hl 3 rfl) ?_
                      refine zget hx hb inlX0 rfl 3 rfl zk_t3_97 hts hown hK hH hk_fd h_fd rfl dX0_cross_108 ?_
                      refine lv_iload_n hx hb dX0_cross_111 rfl (lv_at hl 2 rfl) ?_
                      obtain ⟨k27, hf⟩ := zck_some hf
                      refine ziald hx hb hK hH hk_fd_cornerXs 0 h_fd_cornerXs rfl k27 rfl dX0_cross_112 ?_
                      refine lv_aload_n hx hb dX0_cross_113 rfl (lv_at hl 3 rfl) ?_
                      refine zget hx hb inlX0 rfl 3 rfl zk_t3_97 hts hown hK hH hk_fd h_fd rfl dX0_cross_114 ?_
                      refine lv_iload_n hx hb dX0_cross_117 rfl (lv_at hl 5 rfl) ?_
                      obtain ⟨k28, hf⟩ := zck_some hf
                      refine ziald hx hb hK hH hk_fd_cornerXs 0 h_fd_cornerXs rfl k28 rfl dX0_cross_118 ?_
                      refine lz_isub hx hb dX0_cross_119 ?_
                      refine lz_imul hx hb dX0_cross_120 ?_
                      obtain ⟨v29, ev29, hf⟩ := zlt_some hf
                      refine lz_nm ev29 ?_
                      refine lv_istore (lv' := [(6, .int (zI v29)), (5, .int (zI v18)), (4, .int (zI v16)), (3, .int (zI r7)), (0, .ref (ad o)), (1, .int (zI x1)), (2, .int (zI x2))]) hx hb dX0_cross_121 hl (by decide) rfl (fun ls hl => ?_)
                      refine lv_aload_n hx hb dX0_cross_123 rfl (lv_at hl 4 rfl) ?_
                      refine lv_aload_n hx hb dX0_cross_124 rfl (lv_at hl 4 rfl) ?_
                      refine zget hx hb inlX0 rfl 3 rfl zk_t3_97 hts hown hK hH hk_fd h_fd rfl dX0_cross_125 ?_
                      refine lv_iload_n hx hb dX0_cross_128 rfl (lv_at hl 6 rfl) ?_
                      obtain ⟨k30, hf⟩ := zck_some hf
                      refine ziald hx hb hK hH hk_fd_cornerXs 0 h_fd_cornerXs rfl k30 rfl dX0_cross_129 ?_
                      refine lv_iload hx hb dX0_cross_130 (lv_at hl 0 rfl) ?_
                      refine lv_iload hx hb dX0_cross_132 (lv_at hl 1 rfl) ?_
                      refine lv_iload hx hb dX0_cross_134 (lv_at hl 2 rfl) ?_
                      refine lz_isub hx hb dX0_cross_136 ?_
                      obtain ⟨r31, k32, hf⟩ := zb1_some hf
                      refine zcSi (As := [.int (zI v29), .int (zI (v18 - v16))]) (rest := [.int (zI (fd_cornerXs x2)), .ref (ad o)]) hx hb hml hown hts hl.1 hK hH hA (c_J9_floorDiv_7cf53 hI hN   k32) zk_t2_20 zk_t1_220 zk_t1_6 zk_t1_221 hd_J9_floorDiv_7cf53 rfl ⟨rfl, rfl, Nat.le_of_ble_eq_true rfl, Nat.le_of_ble_eq_true rfl⟩ ⟨Nat.zero_le _, Nat.zero_le _⟩ rfl (Nat.le_of_ble_eq_true rfl) dX0_cross_137 (fun q34 σ33 Hσ33 lσ33 hp hH => ?_)
                      obtain ⟨hr1, hs1⟩ := hp; subst hr1; rw [hs1] at hH
                      refine lz_iadd hx hb dX0_cross_140 ?_
                      obtain ⟨a35, u36, k37, hf⟩ := zb2_some hf
                      refine zcVv (C := RX0) (As := [.int (zI ((fd_cornerXs x2) + r31))]) (rest := []) hx hb hml hown hts hl.1 hK hH hA (c_X0_putCrossing hI hN ho h_fd h_fd_crossings k37) zk_t2_21 zk_t2_23 zk_s1_6 zk_t1_13 zk_t2_24 hd_X0_putCrossing rfl ⟨rfl, rfl, Nat.le_of_ble_eq_true rfl, Nat.le_of_ble_eq_true rfl⟩ ⟨Nat.zero_le _, Nat.zero_le _⟩ hk_fd h_fd rfl rfl rfl (Nat.le_of_ble_eq_true rfl) dX0_cross_141 (fun σ38 Hσ38 lσ38 hp hH => ?_)
                      obtain ⟨h_fd, h_fd_crossings, hn⟩ := hp
                      have h_fd_cornerXs := (hn (o + 1) (by omega) (by omega)).trans h_fd_cornerXs
                      have h_fd_cornerYs := (hn (o + 2) (by omega) (by omega)).trans h_fd_cornerYs
                      have hbg : ∀ i : Nat, i ≠ o → i ≠ (o + 3) → σ38 i = σ0 i := fun i a0 a1 => (hn i a0 a1).trans (hbg i a0 a1)
                      refine lz_iinc (lv' := [(2, .int (zI (x2 + 1))), (6, .int (zI v29)), (5, .int (zI v18)), (4, .int (zI v16)), (3, .int (zI r7)), (0, .ref (ad o)), (1, .int (zI x1))]) hx hb dX0_cross_144 hl (j := 6) rfl (by decide) rfl (fun ls hl => ?_)
                      refine lv_goto (tgt := 7) hx hb dX0_cross_147 (by decide) ?_
                      cases hf
                      exact ih (x2 + 1) a35 u36 _ hnx _ _ _ hH h_fd h_fd_cornerXs h_fd_cornerYs h_fd_crossings hbg _ (lv_sub hl [5, 6, 0] rfl) kx kr
              · replace hf := (if_neg c14).symm.trans hf
                cases hf
                replace hf := kr _ hnx.symm
                cases hf
                exact zretv hx hb hr hlocks hQ hH ⟨h_fd, h_fd_crossings, hbg⟩ dX0_cross_57
  unfold f_X0_cross at hf
  refine lv_aload_n hx hb dX0_cross_0 rfl (lv_at hl 0 rfl) ?_
  refine lv_iconst (v := zI 0) hx hb dX0_cross_1 (by decide +kernel) ?_
  refine zput hx hb inlX0 tyX0 tyX0_ok nmX0 rfl 8 rfl zk_t3_105 rfl hts hown hK hH hk_fd h_fd rfl rfl rfl dX0_cross_2 (fun σ39 Hσ39 lσ39 h_fd hn hH => ?_)
  have h_fd : σ39 o = oC_fd ad o fd_colour fd_layer fd_column fd_cornerCount 0 fd_density fd_length fd_shift fd_pull fd_underlay fd_drawn := h_fd
  have h_fd_cornerXs := (hn (o + 1) (by omega)).trans h_fd_cornerXs
  have h_fd_cornerYs := (hn (o + 2) (by omega)).trans h_fd_cornerYs
  have h_fd_crossings := (hn (o + 3) (by omega)).trans h_fd_crossings
  have hbg : ∀ i : Nat, i ≠ o → i ≠ (o + 3) → σ39 i = σ0 i := fun i a0 a1 => (hn i a0).trans (hbg i a0 a1)
  refine lv_iconst (v := zI 0) hx hb dX0_cross_5 (by decide +kernel) ?_
  refine lv_istore_n (lv' := [(2, .int (zI 0)), (0, .ref (ad o)), (1, .int (zI p1))]) hx hb dX0_cross_6 rfl hl (by decide) rfl (fun ls hl => ?_)
  obtain ⟨x45, k40, hf⟩ := zbs_some hf
  refine L7 p1 zFU 0 fd_crossings 0 x45 k40 _ _ _ hH h_fd h_fd_cornerXs h_fd_cornerYs h_fd_crossings hbg _ (lv_sub hl [1, 2, 0] rfl) (fun w41 w42 w43 hres σ44 Hσ44 lσ44 hH h_fd h_fd_cornerXs h_fd_cornerYs h_fd_crossings hbg ls hl => ?_) (fun b hres => ?_)
  rotate_left
  · rw [hres] at hf; exact hf
  rw [hres] at hf
  replace hf := show _ = _ from hf
  simp only [zsel] at hf
  cases hf
  exact zretv hx hb hr hlocks hQ hH ⟨h_fd, h_fd_crossings, hbg⟩ dX0_cross_150
abbrev rmX0_drawSpan : Room := { frames := 1, cells := 0, slots := 0, locals := 23 }
theorem hd_X0_drawSpan : yX0_drawSpan.cls = RX0 ∧ yX0_drawSpan.cls ≠ "java/lang/invoke/MethodHandle" ∧ yX0_drawSpan.cls ≠ "java/lang/invoke/VarHandle" ∧ (parseMethodDescriptor yX0_drawSpan.desc).map (fun d => d.parameters.length) = some 4 := by decide +kernel
set_option maxHeartbeats 4000000 in
set_option maxRecDepth 100000 in
theorem c_X0_drawSpan {l : Launch} {D : va_G} {cI cZ cF cL cD : ClassId} {ad : Nat → Nat} {N : Nat} (hI : ∀ i j, i < N → j < N → ad i = ad j → i = j) (hN : 19 ≤ N) {o : Nat} (ho : 19 ≤ o ∧ o + 7 ≤ N) {σ0 : Nat → va_E} {sz : Nat} {fd_colour : Int} {fd_layer : Int} {fd_column : Int} {fd_crossings : Int → Int} {fd_cornerCount : Int} {fd_crossingCount : Int} {fd_density : Int} {fd_length : Int} {fd_shift : Int} {fd_pull : Int} {fd_underlay : Int} {fd_drawn : Int} {pt_xs : Int → Int} {pt_ys : Int → Int} {pt_size : Int} {p1 : Int} {p2 : Int} {p3 : Int} {p4 : Int} {R_pt_xs : Int → Int} {R_pt_ys : Int → Int} {R_pt_size : Int} (h_fd : σ0 o = oC_fd ad o fd_colour fd_layer fd_column fd_cornerCount fd_crossingCount fd_density fd_length fd_shift fd_pull fd_underlay fd_drawn) (h_fd_crossings : σ0 (o + 3) = .inl (cI, 8, .inl (zA fd_crossings))) (h_pt : σ0 (o + 4) = oC_pt ad o pt_size) (h_pt_xs : σ0 (o + 5) = .inl (cI, 2078, .inl (zA pt_xs))) (h_pt_ys : σ0 (o + 6) = .inl (cI, 2078, .inl (zA pt_ys))) (hf : f_X0_drawSpan fd_crossings fd_length fd_shift fd_pull pt_xs pt_ys pt_size p1 p2 p3 p4 = some (R_pt_xs, R_pt_ys, R_pt_size)) :
    Met l yX0_drawSpan (Cond.code yX0_drawSpan cX0_drawSpan 12 none :: wsL_law) rmX0_drawSpan (zPre D ad N (zT cI cZ cF cL cD) σ0 sz [.ref (ad o), .int (zI p1), .int (zI p2), .int (zI p3), .int (zI p4)]) (zQv D ad N sz (fun σ' => σ' (o + 4) = oC_pt ad o R_pt_size ∧ σ' (o + 5) = .inl (cI, 2078, .inl (zA R_pt_xs)) ∧ σ' (o + 6) = .inl (cI, 2078, .inl (zA R_pt_ys)) ∧ ∀ i : Nat, i ≠ (o + 4) → i ≠ (o + 5) → i ≠ (o + 6) → σ' i = σ0 i)) 0 0 (zFr ad N sz) := by
  refine zMet hI (plainFor_of_name (by decide)) (Nat.le_of_ble_eq_true rfl) ⟨rfl, rfl⟩ ?_
  intro p e s m args below meth c Q hx hb hr hlocks hml hown hts hK hsz hQ hH hA ls hl
  subst hsz
  have hk_fd : o < N := by omega
  have hk_fd_crossings : (o + 3) < N := by omega
  have hk_pt : (o + 4) < N := by omega
  have hk_pt_xs : (o + 5) < N := by omega
  have hk_pt_ys : (o + 6) < N := by omega
  have hl : lv_has ls 12 [(0, .ref (ad o)), (1, .int (zI p1)), (2, .int (zI p2)), (3, .int (zI p3)), (4, .int (zI p4))] := hl
  have hbg : ∀ i : Nat, i ≠ (o + 4) → i ≠ (o + 5) → i ≠ (o + 6) → σ0 i = σ0 i := fun _ _ _ _ => rfl
  have J177 : ∀ (pt_xs : Int → Int) (pt_ys : Int → Int) (pt_size : Int) (x3 : Int) (s1 : Int) (σ : Nat → va_E) (H : Heap) (locs : List Loc) (hH : zH D ad N (zFr ad N s.heap.size) s.heap σ H locs) (h_fd : σ o = oC_fd ad o fd_colour fd_layer fd_column fd_cornerCount fd_crossingCount fd_density fd_length fd_shift fd_pull fd_underlay fd_drawn) (h_fd_crossings : σ (o + 3) = .inl (cI, 8, .inl (zA fd_crossings))) (h_pt : σ (o + 4) = oC_pt ad o pt_size) (h_pt_xs : σ (o + 5) = .inl (cI, 2078, .inl (zA pt_xs))) (h_pt_ys : σ (o + 6) = .inl (cI, 2078, .inl (zA pt_ys))) (hbg : ∀ i : Nat, i ≠ (o + 4) → i ≠ (o + 5) → i ≠ (o + 6) → σ i = σ0 i) (ls : Array Slot) (hl : lv_has ls 12 [(3, .int (zI x3))]), f_X0_drawSpan_177 fd_crossings fd_length fd_shift fd_pull pt_xs pt_ys pt_size x3 s1 = some (R_pt_xs, R_pt_ys, R_pt_size) → W p l e rmX0_drawSpan s m args below meth c H locs 0 0 Q (F0 m 177 ls [.int (zI s1), .ref (ad (o + 4))]) := by
    intro pt_xs pt_ys pt_size x3 s1 σ H locs hH h_fd h_fd_crossings h_pt h_pt_xs h_pt_ys hbg ls hl hf
    unfold f_X0_drawSpan_177 at hf
    refine lv_iload_n hx hb dX0_drawSpan_177 rfl (lv_at hl 0 rfl) ?_
    obtain ⟨a1, a2, u3, k4, hf⟩ := zb3_some hf
    refine zcVv (C := RX4) (As := [.int (zI s1), .int (zI x3)]) (rest := []) hx hb hml hown hts hl.1 hK hH hA (c_X4_put hI hN ho h_pt h_pt_xs h_pt_ys k4) zk_t1_222 zk_t1_223 zk_t1_224 zk_t1_14 zk_t1_225 hd_X4_put rfl ⟨rfl, rfl, Nat.le_of_ble_eq_true rfl, Nat.le_of_ble_eq_true rfl⟩ ⟨Nat.zero_le _, Nat.zero_le _⟩ hk_pt h_pt rfl rfl rfl (Nat.le_of_ble_eq_true rfl) dX0_drawSpan_178 (fun σ5 Hσ5 lσ5 hp hH => ?_)
    obtain ⟨h_pt, h_pt_xs, h_pt_ys, hn⟩ := hp
    have h_fd := (hn o (by omega) (by omega) (by omega)).trans h_fd
    have h_fd_crossings := (hn (o + 3) (by omega) (by omega) (by omega)).trans h_fd_crossings
    have hbg : ∀ i : Nat, i ≠ (o + 4) → i ≠ (o + 5) → i ≠ (o + 6) → σ5 i = σ0 i := fun i a0 a1 a2 => (hn i a0 a1 a2).trans (hbg i a0 a1 a2)
    cases hf
    exact zretv hx hb hr hlocks hQ hH ⟨h_pt, h_pt_xs, h_pt_ys, hbg⟩ dX0_drawSpan_181
  have L92 : ∀ (x2 : Int) (x3 : Int) (x4 : Int) (x6 : Int) (x7 : Int) (x8 : Int) (x9 : Int)  (n : Nat) (x10 : Int) (pt_xs : Int → Int) (pt_ys : Int → Int) (pt_size : Int) (x10' : Int) (pt_xs' : Int → Int) (pt_ys' : Int → Int) (pt_size' : Int), zlp (fun z => f_X0_drawSpan_L92 fd_crossings fd_length fd_shift fd_pull x2 x3 x4 x6 x7 x8 x9 z.1 z.2.1 z.2.2.1 z.2.2.2) n (x10, pt_xs, pt_ys, pt_size) = some (x10', pt_xs', pt_ys', pt_size') → ∀ (σ : Nat → va_E) (H : Heap) (locs : List Loc) (hH : zH D ad N (zFr ad N s.heap.size) s.heap σ H locs) (h_fd : σ o = oC_fd ad o fd_colour fd_layer fd_column fd_cornerCount fd_crossingCount fd_density fd_length fd_shift fd_pull fd_underlay fd_drawn) (h_fd_crossings : σ (o + 3) = .inl (cI, 8, .inl (zA fd_crossings))) (h_pt : σ (o + 4) = oC_pt ad o pt_size) (h_pt_xs : σ (o + 5) = .inl (cI, 2078, .inl (zA pt_xs))) (h_pt_ys : σ (o + 6) = .inl (cI, 2078, .inl (zA pt_ys))) (hbg : ∀ i : Nat, i ≠ (o + 4) → i ≠ (o + 5) → i ≠ (o + 6) → σ i = σ0 i) (ls : Array Slot) (hl : lv_has ls 12 [(0, .ref (ad o)), (2, .int (zI x2)), (3, .int (zI x3)), (4, .int (zI x4)), (6, .int (zI x6)), (7, .int (zI x7)), (8, .int (zI x8)), (9, .int (zI x9)), (10, .int (zI x10))]), (∀ (σ : Nat → va_E) (H : Heap) (locs : List Loc) (hH : zH D ad N (zFr ad N s.heap.size) s.heap σ H locs) (h_fd : σ o = oC_fd ad o fd_colour fd_layer fd_column fd_cornerCount fd_crossingCount fd_density fd_length fd_shift fd_pull fd_underlay fd_drawn) (h_fd_crossings : σ (o + 3) = .inl (cI, 8, .inl (zA fd_crossings))) (h_pt : σ (o + 4) = oC_pt ad o (pt_size')) (h_pt_xs : σ (o + 5) = .inl (cI, 2078, .inl (zA (pt_xs')))) (h_pt_ys : σ (o + 6) = .inl (cI, 2078, .inl (zA (pt_ys')))) (hbg : ∀ i : Nat, i ≠ (o + 4) → i ≠ (o + 5) → i ≠ (o + 6) → σ i = σ0 i) (ls : Array Slot) (hl : lv_has ls 12 [(0, .ref (ad o)), (3, .int (zI x3)), (4, .int (zI x4)), (6, .int (zI x6)), (7, .int (zI x7))]), W p l e rmX0_drawSpan s m args below meth c H locs 0 0 Q (F0 m 154 ls [])) → W p l e rmX0_drawSpan s m args below meth c H locs 0 0 Q (F0 m 92 ls []) := by
    intro x2 x3 x4 x6 x7 x8 x9 n
    induction n with
    | zero => intro x10 pt_xs pt_ys pt_size x10' pt_xs' pt_ys' pt_size' hz; exact (zlp_0 hz).elim
    | succ n ih =>
      intro x10 pt_xs pt_ys pt_size x10' pt_xs' pt_ys' pt_size' hz σ H locs hH h_fd h_fd_crossings h_pt h_pt_xs h_pt_ys hbg ls hl kx
      obtain ⟨nx, hf, hnx⟩ := zlp_some hz
      have hf : f_X0_drawSpan_L92 fd_crossings fd_length fd_shift fd_pull x2 x3 x4 x6 x7 x8 x9 x10 pt_xs pt_ys pt_size = some nx := hf
      unfold f_X0_drawSpan_L92 at hf
      refine lv_iload hx hb dX0_drawSpan_92 (lv_at hl 8 rfl) ?_
      refine lv_iload hx hb dX0_drawSpan_94 (lv_at hl 5 rfl) ?_
      refine lv_iload hx hb dX0_drawSpan_96 (lv_at hl 4 rfl) ?_
      refine lz_isub hx hb dX0_drawSpan_98 ?_
      obtain ⟨k6, hf⟩ := zck_some hf
      refine lz_icmp_ge (tgt := 154) hx hb k6 dX0_drawSpan_99 (by decide) (fun c7 => ?_) (fun c7 => ?_)
      · replace hf := (if_pos c7).symm.trans hf
        cases hf
        cases hnx
        exact kx _ _ _ hH h_fd h_fd_crossings h_pt h_pt_xs h_pt_ys hbg _ (lv_sub hl [0, 2, 3, 4, 5] rfl)
      · replace hf := (if_neg c7).symm.trans hf
        refine lv_iload hx hb dX0_drawSpan_102 (lv_at hl 6 rfl) ?_
        refine lv_iload hx hb dX0_drawSpan_104 (lv_at hl 7 rfl) ?_
        refine lv_iload hx hb dX0_drawSpan_106 (lv_at hl 8 rfl) ?_
        refine lz_imul hx hb dX0_drawSpan_108 ?_
        refine lz_iadd hx hb dX0_drawSpan_109 ?_
        obtain ⟨v8, ev8, hf⟩ := zlt_some hf
        refine lz_nm ev8 ?_
        refine lv_istore (lv' := [(11, .int (zI v8)), (0, .ref (ad o)), (2, .int (zI x2)), (3, .int (zI x3)), (4, .int (zI x4)), (6, .int (zI x6)), (7, .int (zI x7)), (8, .int (zI x8)), (9, .int (zI x9)), (10, .int (zI x10))]) hx hb dX0_drawSpan_110 hl (by decide) rfl (fun ls hl => ?_)
        refine lv_aload_n hx hb dX0_drawSpan_112 rfl (lv_at hl 1 rfl) ?_
        refine zget hx hb inlX0 rfl 10 rfl zk_t3_108 hts hown hK hH hk_fd h_fd rfl dX0_drawSpan_113 ?_
        obtain ⟨k9, hf⟩ := zck_some hf
        refine lz_if_le (tgt := 148) hx hb k9 dX0_drawSpan_116 (by decide) (fun c10 => ?_) (fun c10 => ?_)
        · replace hf := (if_pos c10).symm.trans hf
          refine lz_iinc (lv' := [(10, .int (zI (x10 + 1))), (11, .int (zI v8)), (0, .ref (ad o)), (2, .int (zI x2)), (3, .int (zI x3)), (4, .int (zI x4)), (6, .int (zI x6)), (7, .int (zI x7)), (8, .int (zI x8)), (9, .int (zI x9))]) hx hb dX0_drawSpan_148 hl (j := 9) rfl (by decide) rfl (fun ls hl => ?_)
          refine lv_goto (tgt := 92) hx hb dX0_drawSpan_151 (by decide) ?_
          cases hf
          exact ih (x10 + 1) pt_xs pt_ys pt_size _ _ _ _ hnx _ _ _ hH h_fd h_fd_crossings h_pt h_pt_xs h_pt_ys hbg _ (lv_sub hl [2, 3, 4, 5, 6, 7, 8, 9, 0] rfl) kx
        · replace hf := (if_neg c10).symm.trans hf
          refine lv_iload hx hb dX0_drawSpan_119 (lv_at hl 0 rfl) ?_
          refine lv_iload_n hx hb dX0_drawSpan_121 rfl (lv_at hl 2 rfl) ?_
          refine lv_aload_n hx hb dX0_drawSpan_122 rfl (lv_at hl 1 rfl) ?_
          refine zget hx hb inlX0 rfl 11 rfl zk_t3_109 hts hown hK hH hk_fd h_fd rfl dX0_drawSpan_123 ?_
          refine lz_imul hx hb dX0_drawSpan_126 ?_
          refine lz_isub hx hb dX0_drawSpan_127 ?_
          refine lv_aload_n hx hb dX0_drawSpan_128 rfl (lv_at hl 1 rfl) ?_
          refine zget hx hb inlX0 rfl 10 rfl zk_t3_108 hts hown hK hH hk_fd h_fd rfl dX0_drawSpan_129 ?_
          obtain ⟨r11, k12, hf⟩ := zb1_some hf
          refine zcSi (As := [.int (zI (v8 - (x2 * fd_shift))), .int (zI fd_length)]) (rest := []) hx hb hml hown hts hl.1 hK hH hA (c_J9_floorMod_7cf53 hI hN   k12) zk_t2_29 zk_t2_30 zk_t1_6 zk_t2_31 hd_J9_floorMod_7cf53 rfl ⟨rfl, rfl, Nat.le_of_ble_eq_true rfl, Nat.le_of_ble_eq_true rfl⟩ ⟨Nat.zero_le _, Nat.zero_le _⟩ rfl (Nat.le_of_ble_eq_true rfl) dX0_drawSpan_132 (fun q14 σ13 Hσ13 lσ13 hp hH => ?_)
          obtain ⟨hr1, hs1⟩ := hp; subst hr1; rw [hs1] at hH
          obtain ⟨k15, hf⟩ := zck_some hf
          refine lz_if_ne (tgt := 148) hx hb k15 dX0_drawSpan_135 (by decide) (fun c16 => ?_) (fun c16 => ?_)
          · replace hf := (if_neg c16).symm.trans hf
            refine lz_iinc (lv' := [(10, .int (zI (x10 + 1))), (11, .int (zI v8)), (0, .ref (ad o)), (2, .int (zI x2)), (3, .int (zI x3)), (4, .int (zI x4)), (6, .int (zI x6)), (7, .int (zI x7)), (8, .int (zI x8)), (9, .int (zI x9))]) hx hb dX0_drawSpan_148 hl (j := 9) rfl (by decide) rfl (fun ls hl => ?_)
            refine lv_goto (tgt := 92) hx hb dX0_drawSpan_151 (by decide) ?_
            cases hf
            exact ih (x10 + 1) pt_xs pt_ys pt_size _ _ _ _ hnx _ _ _ hH h_fd h_fd_crossings h_pt h_pt_xs h_pt_ys hbg _ (lv_sub hl [2, 3, 4, 5, 6, 7, 8, 9, 0] rfl) kx
          · replace hf := (if_pos c16).symm.trans hf
            refine lv_aload_n hx hb dX0_drawSpan_138 rfl (lv_at hl 1 rfl) ?_
            refine zget hx hb inlX0 rfl 6 rfl zk_t3_100 hts hown hK hH hk_fd h_fd rfl dX0_drawSpan_139 ?_
            refine lv_iload hx hb dX0_drawSpan_142 (lv_at hl 0 rfl) ?_
            refine lv_iload_n hx hb dX0_drawSpan_144 rfl (lv_at hl 3 rfl) ?_
            obtain ⟨a17, a18, u19, k20, hf⟩ := zb3_some hf
            refine zcVv (C := RX4) (As := [.int (zI v8), .int (zI x3)]) (rest := []) hx hb hml hown hts hl.1 hK hH hA (c_X4_put hI hN ho h_pt h_pt_xs h_pt_ys k20) zk_t1_222 zk_t1_223 zk_t1_224 zk_t1_14 zk_t1_225 hd_X4_put rfl ⟨rfl, rfl, Nat.le_of_ble_eq_true rfl, Nat.le_of_ble_eq_true rfl⟩ ⟨Nat.zero_le _, Nat.zero_le _⟩ hk_pt h_pt rfl rfl rfl (Nat.le_of_ble_eq_true rfl) dX0_drawSpan_145 (fun σ21 Hσ21 lσ21 hp hH => ?_)
            obtain ⟨h_pt, h_pt_xs, h_pt_ys, hn⟩ := hp
            have h_fd := (hn o (by omega) (by omega) (by omega)).trans h_fd
            have h_fd_crossings := (hn (o + 3) (by omega) (by omega) (by omega)).trans h_fd_crossings
            have hbg : ∀ i : Nat, i ≠ (o + 4) → i ≠ (o + 5) → i ≠ (o + 6) → σ21 i = σ0 i := fun i a0 a1 a2 => (hn i a0 a1 a2).trans (hbg i a0 a1 a2)
            refine lz_iinc (lv' := [(10, .int (zI (x10 + 1))), (11, .int (zI v8)), (0, .ref (ad o)), (2, .int (zI x2)), (3, .int (zI x3)), (4, .int (zI x4)), (6, .int (zI x6)), (7, .int (zI x7)), (8, .int (zI x8)), (9, .int (zI x9))]) hx hb dX0_drawSpan_148 hl (j := 9) rfl (by decide) rfl (fun ls hl => ?_)
            refine lv_goto (tgt := 92) hx hb dX0_drawSpan_151 (by decide) ?_
            cases hf
            exact ih (x10 + 1) a17 a18 u19 _ _ _ _ hnx _ _ _ hH h_fd h_fd_crossings h_pt h_pt_xs h_pt_ys hbg _ (lv_sub hl [2, 3, 4, 5, 6, 7, 8, 9, 0] rfl) kx
  have J77 : ∀ (pt_xs : Int → Int) (pt_ys : Int → Int) (pt_size : Int) (x2 : Int) (x3 : Int) (x4 : Int) (x6 : Int) (x7 : Int) (x8 : Int) (s0 : Int) (σ : Nat → va_E) (H : Heap) (locs : List Loc) (hH : zH D ad N (zFr ad N s.heap.size) s.heap σ H locs) (h_fd : σ o = oC_fd ad o fd_colour fd_layer fd_column fd_cornerCount fd_crossingCount fd_density fd_length fd_shift fd_pull fd_underlay fd_drawn) (h_fd_crossings : σ (o + 3) = .inl (cI, 8, .inl (zA fd_crossings))) (h_pt : σ (o + 4) = oC_pt ad o pt_size) (h_pt_xs : σ (o + 5) = .inl (cI, 2078, .inl (zA pt_xs))) (h_pt_ys : σ (o + 6) = .inl (cI, 2078, .inl (zA pt_ys))) (hbg : ∀ i : Nat, i ≠ (o + 4) → i ≠ (o + 5) → i ≠ (o + 6) → σ i = σ0 i) (ls : Array Slot) (hl : lv_has ls 12 [(0, .ref (ad o)), (2, .int (zI x2)), (3, .int (zI x3)), (4, .int (zI x4)), (6, .int (zI x6)), (7, .int (zI x7)), (8, .int (zI x8))]), f_X0_drawSpan_77 fd_crossings fd_length fd_shift fd_pull pt_xs pt_ys pt_size x2 x3 x4 x6 x7 x8 s0 = some (R_pt_xs, R_pt_ys, R_pt_size) → W p l e rmX0_drawSpan s m args below meth c H locs 0 0 Q (F0 m 77 ls [.int (zI s0)]) := by
    intro pt_xs pt_ys pt_size x2 x3 x4 x6 x7 x8 s0 σ H locs hH h_fd h_fd_crossings h_pt h_pt_xs h_pt_ys hbg ls hl hf
    unfold f_X0_drawSpan_77 at hf
    refine lv_istore (lv' := [(9, .int (zI s0)), (0, .ref (ad o)), (2, .int (zI x2)), (3, .int (zI x3)), (4, .int (zI x4)), (6, .int (zI x6)), (7, .int (zI x7)), (8, .int (zI x8))]) hx hb dX0_drawSpan_77 hl (by decide) rfl (fun ls hl => ?_)
    refine lv_aload_n hx hb dX0_drawSpan_79 rfl (lv_at hl 1 rfl) ?_
    refine zget hx hb inlX0 rfl 6 rfl zk_t3_100 hts hown hK hH hk_fd h_fd rfl dX0_drawSpan_80 ?_
    refine lv_iload hx hb dX0_drawSpan_83 (lv_at hl 7 rfl) ?_
    refine lv_iload_n hx hb dX0_drawSpan_85 rfl (lv_at hl 3 rfl) ?_
    obtain ⟨a22, a23, u24, k25, hf⟩ := zb3_some hf
    refine zcVv (C := RX4) (As := [.int (zI x8), .int (zI x3)]) (rest := []) hx hb hml hown hts hl.1 hK hH hA (c_X4_put hI hN ho h_pt h_pt_xs h_pt_ys k25) zk_t1_222 zk_t1_223 zk_t1_224 zk_t1_14 zk_t1_225 hd_X4_put rfl ⟨rfl, rfl, Nat.le_of_ble_eq_true rfl, Nat.le_of_ble_eq_true rfl⟩ ⟨Nat.zero_le _, Nat.zero_le _⟩ hk_pt h_pt rfl rfl rfl (Nat.le_of_ble_eq_true rfl) dX0_drawSpan_86 (fun σ26 Hσ26 lσ26 hp hH => ?_)
    obtain ⟨h_pt, h_pt_xs, h_pt_ys, hn⟩ := hp
    have h_fd := (hn o (by omega) (by omega) (by omega)).trans h_fd
    have h_fd_crossings := (hn (o + 3) (by omega) (by omega) (by omega)).trans h_fd_crossings
    have hbg : ∀ i : Nat, i ≠ (o + 4) → i ≠ (o + 5) → i ≠ (o + 6) → σ26 i = σ0 i := fun i a0 a1 a2 => (hn i a0 a1 a2).trans (hbg i a0 a1 a2)
    refine lv_iconst (v := zI 1) hx hb dX0_drawSpan_89 (by decide +kernel) ?_
    refine lv_istore (lv' := [(10, .int (zI 1)), (9, .int (zI s0)), (0, .ref (ad o)), (2, .int (zI x2)), (3, .int (zI x3)), (4, .int (zI x4)), (6, .int (zI x6)), (7, .int (zI x7)), (8, .int (zI x8))]) hx hb dX0_drawSpan_90 hl (by decide) rfl (fun ls hl => ?_)
    obtain ⟨w28, w29, w30, w31, k27, hf⟩ := zb4_some hf
    refine L92 x2 x3 x4 x6 x7 x8 s0 zFU 1 a22 a23 u24 w28 w29 w30 w31 k27 _ _ _ hH h_fd h_fd_crossings h_pt h_pt_xs h_pt_ys hbg _ (lv_sub hl [2, 3, 4, 5, 6, 7, 8, 1, 0] rfl) (fun σ32 Hσ32 lσ32 hH h_fd h_fd_crossings h_pt h_pt_xs h_pt_ys hbg ls hl => ?_)
    refine lv_iload hx hb dX0_drawSpan_154 (lv_at hl 3 rfl) ?_
    refine lv_iload hx hb dX0_drawSpan_156 (lv_at hl 4 rfl) ?_
    obtain ⟨k33, hf⟩ := zck_some hf
    refine lz_icmp_eq (tgt := 181) hx hb k33 dX0_drawSpan_158 (by decide) (fun c34 => ?_) (fun c34 => ?_)
    · replace hf := (if_pos c34).symm.trans hf
      cases hf
      exact zretv hx hb hr hlocks hQ hH ⟨h_pt, h_pt_xs, h_pt_ys, hbg⟩ dX0_drawSpan_181
    · replace hf := (if_neg c34).symm.trans hf
      refine lv_aload_n hx hb dX0_drawSpan_161 rfl (lv_at hl 0 rfl) ?_
      refine zget hx hb inlX0 rfl 6 rfl zk_t3_100 hts hown hK hH hk_fd h_fd rfl dX0_drawSpan_162 ?_
      refine lv_iload hx hb dX0_drawSpan_165 (lv_at hl 2 rfl) ?_
      obtain ⟨k35, hf⟩ := zck_some hf
      refine lz_if_eq (tgt := 175) hx hb k35 dX0_drawSpan_167 (by decide) (fun c36 => ?_) (fun c36 => ?_)
      · replace hf := (if_pos c36).symm.trans hf
        refine lv_iload hx hb dX0_drawSpan_175 (lv_at hl 4 rfl) ?_
        exact J177 w29 w30 w31 x3 x7 _ _ _ hH h_fd h_fd_crossings h_pt h_pt_xs h_pt_ys hbg _ (lv_sub hl [1] rfl) hf
      · replace hf := (if_neg c36).symm.trans hf
        refine lv_iload hx hb dX0_drawSpan_170 (lv_at hl 3 rfl) ?_
        refine lv_goto (tgt := 177) hx hb dX0_drawSpan_172 (by decide) ?_
        exact J177 w29 w30 w31 x3 x6 _ _ _ hH h_fd h_fd_crossings h_pt h_pt_xs h_pt_ys hbg _ (lv_sub hl [1] rfl) hf
  have J65 : ∀ (pt_xs : Int → Int) (pt_ys : Int → Int) (pt_size : Int) (x2 : Int) (x3 : Int) (x4 : Int) (x6 : Int) (x7 : Int) (s0 : Int) (σ : Nat → va_E) (H : Heap) (locs : List Loc) (hH : zH D ad N (zFr ad N s.heap.size) s.heap σ H locs) (h_fd : σ o = oC_fd ad o fd_colour fd_layer fd_column fd_cornerCount fd_crossingCount fd_density fd_length fd_shift fd_pull fd_underlay fd_drawn) (h_fd_crossings : σ (o + 3) = .inl (cI, 8, .inl (zA fd_crossings))) (h_pt : σ (o + 4) = oC_pt ad o pt_size) (h_pt_xs : σ (o + 5) = .inl (cI, 2078, .inl (zA pt_xs))) (h_pt_ys : σ (o + 6) = .inl (cI, 2078, .inl (zA pt_ys))) (hbg : ∀ i : Nat, i ≠ (o + 4) → i ≠ (o + 5) → i ≠ (o + 6) → σ i = σ0 i) (ls : Array Slot) (hl : lv_has ls 12 [(0, .ref (ad o)), (2, .int (zI x2)), (3, .int (zI x3)), (4, .int (zI x4)), (6, .int (zI x6)), (7, .int (zI x7))]), f_X0_drawSpan_65 fd_crossings fd_length fd_shift fd_pull pt_xs pt_ys pt_size x2 x3 x4 x6 x7 s0 = some (R_pt_xs, R_pt_ys, R_pt_size) → W p l e rmX0_drawSpan s m args below meth c H locs 0 0 Q (F0 m 65 ls [.int (zI s0)]) := by
    intro pt_xs pt_ys pt_size x2 x3 x4 x6 x7 s0 σ H locs hH h_fd h_fd_crossings h_pt h_pt_xs h_pt_ys hbg ls hl hf
    unfold f_X0_drawSpan_65 at hf
    refine lv_istore (lv' := [(8, .int (zI s0)), (0, .ref (ad o)), (2, .int (zI x2)), (3, .int (zI x3)), (4, .int (zI x4)), (6, .int (zI x6)), (7, .int (zI x7))]) hx hb dX0_drawSpan_65 hl (by decide) rfl (fun ls hl => ?_)
    refine lv_iload hx hb dX0_drawSpan_67 (lv_at hl 4 rfl) ?_
    obtain ⟨k37, hf⟩ := zck_some hf
    refine lz_if_eq (tgt := 76) hx hb k37 dX0_drawSpan_69 (by decide) (fun c38 => ?_) (fun c38 => ?_)
    · replace hf := (if_pos c38).symm.trans hf
      refine lv_iconst (v := zI 1) hx hb dX0_drawSpan_76 (by decide +kernel) ?_
      exact J77 pt_xs pt_ys pt_size x2 x3 x4 x6 x7 s0 1 _ _ _ hH h_fd h_fd_crossings h_pt h_pt_xs h_pt_ys hbg _ (lv_sub hl [1, 2, 3, 4, 5, 6, 0] rfl) hf
    · replace hf := (if_neg c38).symm.trans hf
      refine lv_iconst (v := zI (-1)) hx hb dX0_drawSpan_72 (by decide +kernel) ?_
      refine lv_goto (tgt := 77) hx hb dX0_drawSpan_73 (by decide) ?_
      exact J77 pt_xs pt_ys pt_size x2 x3 x4 x6 x7 s0 (-1) _ _ _ hH h_fd h_fd_crossings h_pt h_pt_xs h_pt_ys hbg _ (lv_sub hl [1, 2, 3, 4, 5, 6, 0] rfl) hf
  unfold f_X0_drawSpan at hf
  refine lv_iconst (v := zI 2) hx hb dX0_drawSpan_0 (by decide +kernel) ?_
  refine lv_iload_n hx hb dX0_drawSpan_1 rfl (lv_at hl 1 rfl) ?_
  refine lz_imul hx hb dX0_drawSpan_2 ?_
  obtain ⟨v39, ev39, hf⟩ := zlt_some hf
  refine lz_nm ev39 ?_
  refine lv_istore (lv' := [(5, .int (zI v39)), (0, .ref (ad o)), (1, .int (zI p1)), (2, .int (zI p2)), (3, .int (zI p3)), (4, .int (zI p4))]) hx hb dX0_drawSpan_3 hl (by decide) rfl (fun ls hl => ?_)
  refine lv_iload hx hb dX0_drawSpan_5 (lv_at hl 0 rfl) ?_
  obtain ⟨k40, hf⟩ := zck_some hf
  refine lz_if_lt (tgt := 22) hx hb k40 dX0_drawSpan_7 (by decide) (fun c41 => ?_) (fun c41 => ?_)
  · replace hf := (if_pos c41).symm.trans hf
    cases hf
    exact zretv hx hb hr hlocks hQ hH ⟨h_pt, h_pt_xs, h_pt_ys, hbg⟩ dX0_drawSpan_22
  · replace hf := (if_neg c41).symm.trans hf
    refine lv_iload hx hb dX0_drawSpan_10 (lv_at hl 0 rfl) ?_
    refine lv_iconst (v := zI 1) hx hb dX0_drawSpan_12 (by decide +kernel) ?_
    refine lz_iadd hx hb dX0_drawSpan_13 ?_
    refine lv_aload_n hx hb dX0_drawSpan_14 rfl (lv_at hl 1 rfl) ?_
    refine zget hx hb inlX0 rfl 5 rfl zk_t3_99 hts hown hK hH hk_fd h_fd rfl dX0_drawSpan_15 ?_
    refine zalen (z := 8) hx hb hK hH hk_fd_crossings 0 h_fd_crossings rfl (show Int32.ofNat 8 = zI 8 by decide +kernel) dX0_drawSpan_18 ?_
    obtain ⟨k42, hf⟩ := zck_some hf
    refine lz_icmp_lt (tgt := 23) hx hb ⟨k42, by decide⟩ dX0_drawSpan_19 (by decide) (fun c43 => ?_) (fun c43 => ?_)
    · replace hf := (if_pos c43).symm.trans hf
      refine lv_aload_n hx hb dX0_drawSpan_23 rfl (lv_at hl 1 rfl) ?_
      refine zget hx hb inlX0 rfl 5 rfl zk_t3_99 hts hown hK hH hk_fd h_fd rfl dX0_drawSpan_24 ?_
      refine lv_iload hx hb dX0_drawSpan_27 (lv_at hl 0 rfl) ?_
      obtain ⟨k44, hf⟩ := zck_some hf
      refine ziald hx hb hK hH hk_fd_crossings 0 h_fd_crossings rfl k44 rfl dX0_drawSpan_29 ?_
      refine lv_aload_n hx hb dX0_drawSpan_30 rfl (lv_at hl 1 rfl) ?_
      refine zget hx hb inlX0 rfl 12 rfl zk_t3_110 hts hown hK hH hk_fd h_fd rfl dX0_drawSpan_31 ?_
      refine lz_isub hx hb dX0_drawSpan_34 ?_
      obtain ⟨v45, ev45, hf⟩ := zlt_some hf
      refine lz_nm ev45 ?_
      refine lv_istore (lv' := [(6, .int (zI v45)), (5, .int (zI v39)), (0, .ref (ad o)), (1, .int (zI p1)), (2, .int (zI p2)), (3, .int (zI p3)), (4, .int (zI p4))]) hx hb dX0_drawSpan_35 hl (by decide) rfl (fun ls hl => ?_)
      refine lv_aload_n hx hb dX0_drawSpan_37 rfl (lv_at hl 2 rfl) ?_
      refine zget hx hb inlX0 rfl 5 rfl zk_t3_99 hts hown hK hH hk_fd h_fd rfl dX0_drawSpan_38 ?_
      refine lv_iload hx hb dX0_drawSpan_41 (lv_at hl 1 rfl) ?_
      refine lv_iconst (v := zI 1) hx hb dX0_drawSpan_43 (by decide +kernel) ?_
      refine lz_iadd hx hb dX0_drawSpan_44 ?_
      obtain ⟨k46, hf⟩ := zck_some hf
      refine ziald hx hb hK hH hk_fd_crossings 0 h_fd_crossings rfl k46 rfl dX0_drawSpan_45 ?_
      refine lv_aload_n hx hb dX0_drawSpan_46 rfl (lv_at hl 2 rfl) ?_
      refine zget hx hb inlX0 rfl 12 rfl zk_t3_110 hts hown hK hH hk_fd h_fd rfl dX0_drawSpan_47 ?_
      refine lz_iadd hx hb dX0_drawSpan_50 ?_
      obtain ⟨v47, ev47, hf⟩ := zlt_some hf
      refine lz_nm ev47 ?_
      refine lv_istore (lv' := [(7, .int (zI v47)), (6, .int (zI v45)), (5, .int (zI v39)), (0, .ref (ad o)), (1, .int (zI p1)), (2, .int (zI p2)), (3, .int (zI p3)), (4, .int (zI p4))]) hx hb dX0_drawSpan_51 hl (by decide) rfl (fun ls hl => ?_)
      refine lv_iload hx hb dX0_drawSpan_53 (lv_at hl 7 rfl) ?_
      obtain ⟨k48, hf⟩ := zck_some hf
      refine lz_if_eq (tgt := 63) hx hb k48 dX0_drawSpan_55 (by decide) (fun c49 => ?_) (fun c49 => ?_)
      · replace hf := (if_pos c49).symm.trans hf
        refine lv_iload hx hb dX0_drawSpan_63 (lv_at hl 1 rfl) ?_
        exact J65 pt_xs pt_ys pt_size p2 p3 p4 v45 v47 v45 _ _ _ hH h_fd h_fd_crossings h_pt h_pt_xs h_pt_ys hbg _ (lv_sub hl [3, 5, 6, 7, 1, 0] rfl) hf
      · replace hf := (if_neg c49).symm.trans hf
        refine lv_iload hx hb dX0_drawSpan_58 (lv_at hl 0 rfl) ?_
        refine lv_goto (tgt := 65) hx hb dX0_drawSpan_60 (by decide) ?_
        exact J65 pt_xs pt_ys pt_size p2 p3 p4 v45 v47 v47 _ _ _ hH h_fd h_fd_crossings h_pt h_pt_xs h_pt_ys hbg _ (lv_sub hl [3, 5, 6, 7, 1, 0] rfl) hf
    · replace hf := (if_neg c43).symm.trans hf
      cases hf
      exact zretv hx hb hr hlocks hQ hH ⟨h_pt, h_pt_xs, h_pt_ys, hbg⟩ dX0_drawSpan_22
abbrev rmX0_drawRows : Room := { frames := 2, cells := 0, slots := 0, locals := 54 }
theorem hd_X0_drawRows : yX0_drawRows.cls = RX0 ∧ yX0_drawRows.cls ≠ "java/lang/invoke/MethodHandle" ∧ yX0_drawRows.cls ≠ "java/lang/invoke/VarHandle" ∧ (parseMethodDescriptor yX0_drawRows.desc).map (fun d => d.parameters.length) = some 0 := by decide +kernel
set_option maxHeartbeats 4000000 in
set_option maxRecDepth 100000 in
theorem c_X0_drawRows {l : Launch} {D : va_G} {cI cZ cF cL cD : ClassId} {ad : Nat → Nat} {N : Nat} (hI : ∀ i j, i < N → j < N → ad i = ad j → i = j) (hN : 19 ≤ N) {o : Nat} (ho : 19 ≤ o ∧ o + 7 ≤ N) {σ0 : Nat → va_E} {sz : Nat} {fd_colour : Int} {fd_layer : Int} {fd_column : Int} {fd_cornerXs : Int → Int} {fd_cornerYs : Int → Int} {fd_crossings : Int → Int} {fd_cornerCount : Int} {fd_crossingCount : Int} {fd_density : Int} {fd_length : Int} {fd_shift : Int} {fd_pull : Int} {fd_underlay : Int} {fd_drawn : Int} {pt_xs : Int → Int} {pt_ys : Int → Int} {pt_size : Int} {R_fd_crossings : Int → Int} {R_fd_crossingCount : Int} {R_pt_xs : Int → Int} {R_pt_ys : Int → Int} {R_pt_size : Int} (h_fd : σ0 o = oC_fd ad o fd_colour fd_layer fd_column fd_cornerCount fd_crossingCount fd_density fd_length fd_shift fd_pull fd_underlay fd_drawn) (h_fd_cornerXs : σ0 (o + 1) = .inl (cI, 8, .inl (zA fd_cornerXs))) (h_fd_cornerYs : σ0 (o + 2) = .inl (cI, 8, .inl (zA fd_cornerYs))) (h_fd_crossings : σ0 (o + 3) = .inl (cI, 8, .inl (zA fd_crossings))) (h_pt : σ0 (o + 4) = oC_pt ad o pt_size) (h_pt_xs : σ0 (o + 5) = .inl (cI, 2078, .inl (zA pt_xs))) (h_pt_ys : σ0 (o + 6) = .inl (cI, 2078, .inl (zA pt_ys))) (hf : f_X0_drawRows fd_cornerXs fd_cornerYs fd_crossings fd_cornerCount fd_crossingCount fd_density fd_length fd_shift fd_pull pt_xs pt_ys pt_size = some (R_fd_crossings, R_fd_crossingCount, R_pt_xs, R_pt_ys, R_pt_size)) :
    Met l yX0_drawRows (Cond.code yX0_drawRows cX0_drawRows 8 none :: wsL_law) rmX0_drawRows (zPre D ad N (zT cI cZ cF cL cD) σ0 sz [.ref (ad o)]) (zQv D ad N sz (fun σ' => σ' o = oC_fd ad o fd_colour fd_layer fd_column fd_cornerCount R_fd_crossingCount fd_density fd_length fd_shift fd_pull fd_underlay fd_drawn ∧ σ' (o + 3) = .inl (cI, 8, .inl (zA R_fd_crossings)) ∧ σ' (o + 4) = oC_pt ad o R_pt_size ∧ σ' (o + 5) = .inl (cI, 2078, .inl (zA R_pt_xs)) ∧ σ' (o + 6) = .inl (cI, 2078, .inl (zA R_pt_ys)) ∧ ∀ i : Nat, i ≠ o → i ≠ (o + 3) → i ≠ (o + 4) → i ≠ (o + 5) → i ≠ (o + 6) → σ' i = σ0 i)) 0 0 (zFr ad N sz) := by
  refine zMet hI (plainFor_of_name (by decide)) (Nat.le_of_ble_eq_true rfl) ⟨rfl, rfl⟩ ?_
  intro p e s m args below meth c Q hx hb hr hlocks hml hown hts hK hsz hQ hH hA ls hl
  subst hsz
  have hk_fd : o < N := by omega
  have hk_fd_cornerXs : (o + 1) < N := by omega
  have hk_fd_cornerYs : (o + 2) < N := by omega
  have hk_fd_crossings : (o + 3) < N := by omega
  have hk_pt : (o + 4) < N := by omega
  have hk_pt_xs : (o + 5) < N := by omega
  have hk_pt_ys : (o + 6) < N := by omega
  have hl : lv_has ls 8 [(0, .ref (ad o))] := hl
  have hbg : ∀ i : Nat, i ≠ o → i ≠ (o + 3) → i ≠ (o + 4) → i ≠ (o + 5) → i ≠ (o + 6) → σ0 i = σ0 i := fun _ _ _ _ _ _ => rfl
  have L21 : ∀ (x1 : Int) (x2 : Int)  (n : Nat) (x3 : Int) (fd_crossings : Int → Int) (fd_crossingCount : Int) (pt_xs : Int → Int) (pt_ys : Int → Int) (pt_size : Int) (x3' : Int) (fd_crossings' : Int → Int) (fd_crossingCount' : Int) (pt_xs' : Int → Int) (pt_ys' : Int → Int) (pt_size' : Int), zlp (fun z => f_X0_drawRows_L21 fd_cornerXs fd_cornerYs fd_cornerCount fd_density fd_length fd_shift fd_pull x1 x2 z.1 z.2.1 z.2.2.1 z.2.2.2.1 z.2.2.2.2.1 z.2.2.2.2.2) n (x3, fd_crossings, fd_crossingCount, pt_xs, pt_ys, pt_size) = some (x3', fd_crossings', fd_crossingCount', pt_xs', pt_ys', pt_size') → ∀ (σ : Nat → va_E) (H : Heap) (locs : List Loc) (hH : zH D ad N (zFr ad N s.heap.size) s.heap σ H locs) (h_fd : σ o = oC_fd ad o fd_colour fd_layer fd_column fd_cornerCount fd_crossingCount fd_density fd_length fd_shift fd_pull fd_underlay fd_drawn) (h_fd_cornerXs : σ (o + 1) = .inl (cI, 8, .inl (zA fd_cornerXs))) (h_fd_cornerYs : σ (o + 2) = .inl (cI, 8, .inl (zA fd_cornerYs))) (h_fd_crossings : σ (o + 3) = .inl (cI, 8, .inl (zA fd_crossings))) (h_pt : σ (o + 4) = oC_pt ad o pt_size) (h_pt_xs : σ (o + 5) = .inl (cI, 2078, .inl (zA pt_xs))) (h_pt_ys : σ (o + 6) = .inl (cI, 2078, .inl (zA pt_ys))) (hbg : ∀ i : Nat, i ≠ o → i ≠ (o + 3) → i ≠ (o + 4) → i ≠ (o + 5) → i ≠ (o + 6) → σ i = σ0 i) (ls : Array Slot) (hl : lv_has ls 8 [(0, .ref (ad o)), (1, .int (zI x1)), (2, .int (zI x2)), (3, .int (zI x3))]), (∀ (σ : Nat → va_E) (H : Heap) (locs : List Loc) (hH : zH D ad N (zFr ad N s.heap.size) s.heap σ H locs) (h_fd : σ o = oC_fd ad o fd_colour fd_layer fd_column fd_cornerCount (fd_crossingCount') fd_density fd_length fd_shift fd_pull fd_underlay fd_drawn) (h_fd_cornerXs : σ (o + 1) = .inl (cI, 8, .inl (zA fd_cornerXs))) (h_fd_cornerYs : σ (o + 2) = .inl (cI, 8, .inl (zA fd_cornerYs))) (h_fd_crossings : σ (o + 3) = .inl (cI, 8, .inl (zA (fd_crossings')))) (h_pt : σ (o + 4) = oC_pt ad o (pt_size')) (h_pt_xs : σ (o + 5) = .inl (cI, 2078, .inl (zA (pt_xs')))) (h_pt_ys : σ (o + 6) = .inl (cI, 2078, .inl (zA (pt_ys')))) (hbg : ∀ i : Nat, i ≠ o → i ≠ (o + 3) → i ≠ (o + 4) → i ≠ (o + 5) → i ≠ (o + 6) → σ i = σ0 i) (ls : Array Slot) (hl : lv_has ls 8 []), W p l e rmX0_drawRows s m args below meth c H locs 0 0 Q (F0 m 112 ls [])) → W p l e rmX0_drawRows s m args below meth c H locs 0 0 Q (F0 m 21 ls []) := by
    intro x1 x2 n
    induction n with
    | zero => intro x3 fd_crossings fd_crossingCount pt_xs pt_ys pt_size x3' fd_crossings' fd_crossingCount' pt_xs' pt_ys' pt_size' hz; exact (zlp_0 hz).elim
    | succ n ih =>
      intro x3 fd_crossings fd_crossingCount pt_xs pt_ys pt_size x3' fd_crossings' fd_crossingCount' pt_xs' pt_ys' pt_size' hz σ H locs hH h_fd h_fd_cornerXs h_fd_cornerYs h_fd_crossings h_pt h_pt_xs h_pt_ys hbg ls hl kx
      obtain ⟨nx, hf, hnx⟩ := zlp_some hz
      have hf : f_X0_drawRows_L21 fd_cornerXs fd_cornerYs fd_cornerCount fd_density fd_length fd_shift fd_pull x1 x2 x3 fd_crossings fd_crossingCount pt_xs pt_ys pt_size = some nx := hf
      have L67 : ∀ (fd_crossings : Int → Int) (fd_crossingCount : Int) (x1 : Int) (x2 : Int) (x3 : Int) (x4 : Int) (x5 : Int) (x6 : Int)  (n : Nat) (x7 : Int) (pt_xs : Int → Int) (pt_ys : Int → Int) (pt_size : Int) (x7' : Int) (pt_xs' : Int → Int) (pt_ys' : Int → Int) (pt_size' : Int), zlp (fun z => f_X0_drawRows_L67 fd_cornerXs fd_cornerYs fd_crossings fd_cornerCount fd_crossingCount fd_density fd_length fd_shift fd_pull x1 x2 x3 x4 x5 x6 z.1 z.2.1 z.2.2.1 z.2.2.2) n (x7, pt_xs, pt_ys, pt_size) = some (x7', pt_xs', pt_ys', pt_size') → ∀ (σ : Nat → va_E) (H : Heap) (locs : List Loc) (hH : zH D ad N (zFr ad N s.heap.size) s.heap σ H locs) (h_fd : σ o = oC_fd ad o fd_colour fd_layer fd_column fd_cornerCount fd_crossingCount fd_density fd_length fd_shift fd_pull fd_underlay fd_drawn) (h_fd_cornerXs : σ (o + 1) = .inl (cI, 8, .inl (zA fd_cornerXs))) (h_fd_cornerYs : σ (o + 2) = .inl (cI, 8, .inl (zA fd_cornerYs))) (h_fd_crossings : σ (o + 3) = .inl (cI, 8, .inl (zA fd_crossings))) (h_pt : σ (o + 4) = oC_pt ad o pt_size) (h_pt_xs : σ (o + 5) = .inl (cI, 2078, .inl (zA pt_xs))) (h_pt_ys : σ (o + 6) = .inl (cI, 2078, .inl (zA pt_ys))) (hbg : ∀ i : Nat, i ≠ o → i ≠ (o + 3) → i ≠ (o + 4) → i ≠ (o + 5) → i ≠ (o + 6) → σ i = σ0 i) (ls : Array Slot) (hl : lv_has ls 8 [(0, .ref (ad o)), (1, .int (zI x1)), (2, .int (zI x2)), (3, .int (zI x3)), (4, .int (zI x4)), (5, .int (zI x5)), (6, .int (zI x6)), (7, .int (zI x7))]), (∀ (σ : Nat → va_E) (H : Heap) (locs : List Loc) (hH : zH D ad N (zFr ad N s.heap.size) s.heap σ H locs) (h_fd : σ o = oC_fd ad o fd_colour fd_layer fd_column fd_cornerCount fd_crossingCount fd_density fd_length fd_shift fd_pull fd_underlay fd_drawn) (h_fd_cornerXs : σ (o + 1) = .inl (cI, 8, .inl (zA fd_cornerXs))) (h_fd_cornerYs : σ (o + 2) = .inl (cI, 8, .inl (zA fd_cornerYs))) (h_fd_crossings : σ (o + 3) = .inl (cI, 8, .inl (zA fd_crossings))) (h_pt : σ (o + 4) = oC_pt ad o (pt_size')) (h_pt_xs : σ (o + 5) = .inl (cI, 2078, .inl (zA (pt_xs')))) (h_pt_ys : σ (o + 6) = .inl (cI, 2078, .inl (zA (pt_ys')))) (hbg : ∀ i : Nat, i ≠ o → i ≠ (o + 3) → i ≠ (o + 4) → i ≠ (o + 5) → i ≠ (o + 6) → σ i = σ0 i) (ls : Array Slot) (hl : lv_has ls 8 [(0, .ref (ad o)), (1, .int (zI x1)), (2, .int (zI x2)), (3, .int (zI x3))]), W p l e rmX0_drawRows s m args below meth c H locs 0 0 Q (F0 m 106 ls [])) → W p l e rmX0_drawRows s m args below meth c H locs 0 0 Q (F0 m 67 ls []) := by
        intro fd_crossings fd_crossingCount x1 x2 x3 x4 x5 x6 n
        induction n with
        | zero => intro x7 pt_xs pt_ys pt_size x7' pt_xs' pt_ys' pt_size' hz; exact (zlp_0 hz).elim
        | succ n ih =>
          intro x7 pt_xs pt_ys pt_size x7' pt_xs' pt_ys' pt_size' hz σ H locs hH h_fd h_fd_cornerXs h_fd_cornerYs h_fd_crossings h_pt h_pt_xs h_pt_ys hbg ls hl kx
          obtain ⟨nx, hf, hnx⟩ := zlp_some hz
          have hf : f_X0_drawRows_L67 fd_cornerXs fd_cornerYs fd_crossings fd_cornerCount fd_crossingCount fd_density fd_length fd_shift fd_pull x1 x2 x3 x4 x5 x6 x7 pt_xs pt_ys pt_size = some nx := hf
          have JL67_92 : ∀ (pt_xs : Int → Int) (pt_ys : Int → Int) (pt_size : Int) (x7 : Int) (s1 : Int) (σ : Nat → va_E) (H : Heap) (locs : List Loc) (hH : zH D ad N (zFr ad N s.heap.size) s.heap σ H locs) (h_fd : σ o = oC_fd ad o fd_colour fd_layer fd_column fd_cornerCount fd_crossingCount fd_density fd_length fd_shift fd_pull fd_underlay fd_drawn) (h_fd_cornerXs : σ (o + 1) = .inl (cI, 8, .inl (zA fd_cornerXs))) (h_fd_cornerYs : σ (o + 2) = .inl (cI, 8, .inl (zA fd_cornerYs))) (h_fd_crossings : σ (o + 3) = .inl (cI, 8, .inl (zA fd_crossings))) (h_pt : σ (o + 4) = oC_pt ad o pt_size) (h_pt_xs : σ (o + 5) = .inl (cI, 2078, .inl (zA pt_xs))) (h_pt_ys : σ (o + 6) = .inl (cI, 2078, .inl (zA pt_ys))) (hbg : ∀ i : Nat, i ≠ o → i ≠ (o + 3) → i ≠ (o + 4) → i ≠ (o + 5) → i ≠ (o + 6) → σ i = σ0 i) (ls : Array Slot) (hl : lv_has ls 8 [(0, .ref (ad o)), (1, .int (zI x1)), (2, .int (zI x2)), (3, .int (zI x3)), (4, .int (zI x4)), (5, .int (zI x5)), (6, .int (zI x6)), (7, .int (zI x7))]), f_X0_drawRows_L67_92 fd_cornerXs fd_cornerYs fd_crossings fd_cornerCount fd_crossingCount fd_density fd_length fd_shift fd_pull pt_xs pt_ys pt_size x1 x2 x3 x4 x5 x6 x7 s1 = some nx → W p l e rmX0_drawRows s m args below meth c H locs 0 0 Q (F0 m 92 ls [.int (zI s1), .ref (ad o)]) := by
            intro pt_xs pt_ys pt_size x7 s1 σ H locs hH h_fd h_fd_cornerXs h_fd_cornerYs h_fd_crossings h_pt h_pt_xs h_pt_ys hbg ls hl hf
            unfold f_X0_drawRows_L67_92 at hf
            refine lv_iload_n hx hb dX0_drawRows_92 rfl (lv_at hl 3 rfl) ?_
            refine lv_iload hx hb dX0_drawRows_93 (lv_at hl 4 rfl) ?_
            refine lv_iload hx hb dX0_drawRows_95 (lv_at hl 6 rfl) ?_
            obtain ⟨a1, a2, u3, k4, hf⟩ := zb3_some hf
            refine zcVv (C := RX0) (As := [.int (zI s1), .int (zI x3), .int (zI x4), .int (zI x6)]) (rest := []) hx hb hml hown hts hl.1 hK hH hA (c_X0_drawSpan hI hN ho h_fd h_fd_crossings h_pt h_pt_xs h_pt_ys k4) zk_t2_25 zk_t2_27 zk_s1_7 zk_t1_13 zk_t2_28 hd_X0_drawSpan rfl ⟨rfl, rfl, Nat.le_of_ble_eq_true rfl, Nat.le_of_ble_eq_true rfl⟩ ⟨Nat.zero_le _, Nat.zero_le _⟩ hk_fd h_fd rfl rfl rfl (Nat.le_of_ble_eq_true rfl) dX0_drawRows_97 (fun σ5 Hσ5 lσ5 hp hH => ?_)
            obtain ⟨h_pt, h_pt_xs, h_pt_ys, hn⟩ := hp
            have h_fd := (hn o (by omega) (by omega) (by omega)).trans h_fd
            have h_fd_cornerXs := (hn (o + 1) (by omega) (by omega) (by omega)).trans h_fd_cornerXs
            have h_fd_cornerYs := (hn (o + 2) (by omega) (by omega) (by omega)).trans h_fd_cornerYs
            have h_fd_crossings := (hn (o + 3) (by omega) (by omega) (by omega)).trans h_fd_crossings
            have hbg : ∀ i : Nat, i ≠ o → i ≠ (o + 3) → i ≠ (o + 4) → i ≠ (o + 5) → i ≠ (o + 6) → σ5 i = σ0 i := fun i a0 a1 a2 a3 a4 => (hn i a2 a3 a4).trans (hbg i a0 a1 a2 a3 a4)
            refine lz_iinc (lv' := [(7, .int (zI (x7 + 1))), (0, .ref (ad o)), (1, .int (zI x1)), (2, .int (zI x2)), (3, .int (zI x3)), (4, .int (zI x4)), (5, .int (zI x5)), (6, .int (zI x6))]) hx hb dX0_drawRows_100 hl (j := 7) rfl (by decide) rfl (fun ls hl => ?_)
            refine lv_goto (tgt := 67) hx hb dX0_drawRows_103 (by decide) ?_
            cases hf
            exact ih (x7 + 1) a1 a2 u3 _ _ _ _ hnx _ _ _ hH h_fd h_fd_cornerXs h_fd_cornerYs h_fd_crossings h_pt h_pt_xs h_pt_ys hbg _ (lv_sub hl [1, 2, 3, 4, 5, 6, 7, 0] rfl) kx
          unfold f_X0_drawRows_L67 at hf
          refine lv_iload hx hb dX0_drawRows_67 (lv_at hl 7 rfl) ?_
          refine lv_iload hx hb dX0_drawRows_69 (lv_at hl 5 rfl) ?_
          obtain ⟨k6, hf⟩ := zck_some hf
          refine lz_icmp_ge (tgt := 106) hx hb k6 dX0_drawRows_71 (by decide) (fun c7 => ?_) (fun c7 => ?_)
          · replace hf := (if_pos c7).symm.trans hf
            cases hf
            cases hnx
            exact kx _ _ _ hH h_fd h_fd_cornerXs h_fd_cornerYs h_fd_crossings h_pt h_pt_xs h_pt_ys hbg _ (lv_sub hl [0, 1, 2, 3] rfl)
          · replace hf := (if_neg c7).symm.trans hf
            refine lv_aload_n hx hb dX0_drawRows_74 rfl (lv_at hl 0 rfl) ?_
            refine lv_iload hx hb dX0_drawRows_75 (lv_at hl 6 rfl) ?_
            obtain ⟨k8, hf⟩ := zck_some hf
            refine lz_if_eq (tgt := 90) hx hb k8 dX0_drawRows_77 (by decide) (fun c9 => ?_) (fun c9 => ?_)
            · replace hf := (if_pos c9).symm.trans hf
              refine lv_iload hx hb dX0_drawRows_90 (lv_at hl 7 rfl) ?_
              exact JL67_92 pt_xs pt_ys pt_size x7 x7 _ _ _ hH h_fd h_fd_cornerXs h_fd_cornerYs h_fd_crossings h_pt h_pt_xs h_pt_ys hbg _ (lv_sub hl [0, 1, 2, 3, 4, 5, 6, 7] rfl) hf
            · replace hf := (if_neg c9).symm.trans hf
              refine lv_iload hx hb dX0_drawRows_80 (lv_at hl 5 rfl) ?_
              refine lv_iconst (v := zI 1) hx hb dX0_drawRows_82 (by decide +kernel) ?_
              refine lz_isub hx hb dX0_drawRows_83 ?_
              refine lv_iload hx hb dX0_drawRows_84 (lv_at hl 7 rfl) ?_
              refine lz_isub hx hb dX0_drawRows_86 ?_
              refine lv_goto (tgt := 92) hx hb dX0_drawRows_87 (by decide) ?_
              exact JL67_92 pt_xs pt_ys pt_size x7 ((x5 - 1) - x7) _ _ _ hH h_fd h_fd_cornerXs h_fd_cornerYs h_fd_crossings h_pt h_pt_xs h_pt_ys hbg _ (lv_sub hl [0, 1, 2, 3, 4, 5, 6, 7] rfl) hf
      have JL21_62 : ∀ (fd_crossings : Int → Int) (fd_crossingCount : Int) (pt_xs : Int → Int) (pt_ys : Int → Int) (pt_size : Int) (x3 : Int) (x4 : Int) (x5 : Int) (s0 : Int) (σ : Nat → va_E) (H : Heap) (locs : List Loc) (hH : zH D ad N (zFr ad N s.heap.size) s.heap σ H locs) (h_fd : σ o = oC_fd ad o fd_colour fd_layer fd_column fd_cornerCount fd_crossingCount fd_density fd_length fd_shift fd_pull fd_underlay fd_drawn) (h_fd_cornerXs : σ (o + 1) = .inl (cI, 8, .inl (zA fd_cornerXs))) (h_fd_cornerYs : σ (o + 2) = .inl (cI, 8, .inl (zA fd_cornerYs))) (h_fd_crossings : σ (o + 3) = .inl (cI, 8, .inl (zA fd_crossings))) (h_pt : σ (o + 4) = oC_pt ad o pt_size) (h_pt_xs : σ (o + 5) = .inl (cI, 2078, .inl (zA pt_xs))) (h_pt_ys : σ (o + 6) = .inl (cI, 2078, .inl (zA pt_ys))) (hbg : ∀ i : Nat, i ≠ o → i ≠ (o + 3) → i ≠ (o + 4) → i ≠ (o + 5) → i ≠ (o + 6) → σ i = σ0 i) (ls : Array Slot) (hl : lv_has ls 8 [(0, .ref (ad o)), (1, .int (zI x1)), (2, .int (zI x2)), (3, .int (zI x3)), (4, .int (zI x4)), (5, .int (zI x5))]), f_X0_drawRows_L21_62 fd_cornerXs fd_cornerYs fd_crossings fd_cornerCount fd_crossingCount fd_density fd_length fd_shift fd_pull pt_xs pt_ys pt_size x1 x2 x3 x4 x5 s0 = some nx → W p l e rmX0_drawRows s m args below meth c H locs 0 0 Q (F0 m 62 ls [.int (zI s0)]) := by
        intro fd_crossings fd_crossingCount pt_xs pt_ys pt_size x3 x4 x5 s0 σ H locs hH h_fd h_fd_cornerXs h_fd_cornerYs h_fd_crossings h_pt h_pt_xs h_pt_ys hbg ls hl hf
        unfold f_X0_drawRows_L21_62 at hf
        refine lv_istore (lv' := [(6, .int (zI s0)), (0, .ref (ad o)), (1, .int (zI x1)), (2, .int (zI x2)), (3, .int (zI x3)), (4, .int (zI x4)), (5, .int (zI x5))]) hx hb dX0_drawRows_62 hl (by decide) rfl (fun ls hl => ?_)
        refine lv_iconst (v := zI 0) hx hb dX0_drawRows_64 (by decide +kernel) ?_
        refine lv_istore (lv' := [(7, .int (zI 0)), (6, .int (zI s0)), (0, .ref (ad o)), (1, .int (zI x1)), (2, .int (zI x2)), (3, .int (zI x3)), (4, .int (zI x4)), (5, .int (zI x5))]) hx hb dX0_drawRows_65 hl (by decide) rfl (fun ls hl => ?_)
        obtain ⟨w11, w12, w13, w14, k10, hf⟩ := zb4_some hf
        refine L67 fd_crossings fd_crossingCount x1 x2 x3 x4 x5 s0 zFU 0 pt_xs pt_ys pt_size w11 w12 w13 w14 k10 _ _ _ hH h_fd h_fd_cornerXs h_fd_cornerYs h_fd_crossings h_pt h_pt_xs h_pt_ys hbg _ (lv_sub hl [2, 3, 4, 5, 6, 7, 1, 0] rfl) (fun σ15 Hσ15 lσ15 hH h_fd h_fd_cornerXs h_fd_cornerYs h_fd_crossings h_pt h_pt_xs h_pt_ys hbg ls hl => ?_)
        refine lz_iinc (lv' := [(3, .int (zI (x3 + 1))), (0, .ref (ad o)), (1, .int (zI x1)), (2, .int (zI x2))]) hx hb dX0_drawRows_106 hl (j := 3) rfl (by decide) rfl (fun ls hl => ?_)
        refine lv_goto (tgt := 21) hx hb dX0_drawRows_109 (by decide) ?_
        cases hf
        exact ih (x3 + 1) fd_crossings fd_crossingCount w12 w13 w14 _ _ _ _ _ _ hnx _ _ _ hH h_fd h_fd_cornerXs h_fd_cornerYs h_fd_crossings h_pt h_pt_xs h_pt_ys hbg _ (lv_sub hl [1, 2, 3, 0] rfl) kx
      unfold f_X0_drawRows_L21 at hf
      refine lv_iload_n hx hb dX0_drawRows_21 rfl (lv_at hl 3 rfl) ?_
      refine lv_iload_n hx hb dX0_drawRows_22 rfl (lv_at hl 2 rfl) ?_
      obtain ⟨k16, hf⟩ := zck_some hf
      refine lz_icmp_ge (tgt := 112) hx hb k16 dX0_drawRows_23 (by decide) (fun c17 => ?_) (fun c17 => ?_)
      · replace hf := (if_pos c17).symm.trans hf
        cases hf
        cases hnx
        exact kx _ _ _ hH h_fd h_fd_cornerXs h_fd_cornerYs h_fd_crossings h_pt h_pt_xs h_pt_ys hbg _ (lv_sub hl [] rfl)
      · replace hf := (if_neg c17).symm.trans hf
        refine lv_iload_n hx hb dX0_drawRows_26 rfl (lv_at hl 1 rfl) ?_
        refine lv_iload_n hx hb dX0_drawRows_27 rfl (lv_at hl 3 rfl) ?_
        refine lv_aload_n hx hb dX0_drawRows_28 rfl (lv_at hl 0 rfl) ?_
        refine zget hx hb inlX0 rfl 9 rfl zk_t3_106 hts hown hK hH hk_fd h_fd rfl dX0_drawRows_29 ?_
        refine lz_imul hx hb dX0_drawRows_32 ?_
        refine lz_iadd hx hb dX0_drawRows_33 ?_
        obtain ⟨v18, ev18, hf⟩ := zlt_some hf
        refine lz_nm ev18 ?_
        refine lv_istore (lv' := [(4, .int (zI v18)), (0, .ref (ad o)), (1, .int (zI x1)), (2, .int (zI x2)), (3, .int (zI x3))]) hx hb dX0_drawRows_34 hl (by decide) rfl (fun ls hl => ?_)
        refine lv_aload_n hx hb dX0_drawRows_36 rfl (lv_at hl 1 rfl) ?_
        refine lv_iload hx hb dX0_drawRows_37 (lv_at hl 0 rfl) ?_
        obtain ⟨a19, u20, k21, hf⟩ := zb2_some hf
        refine zcVv (C := RX0) (As := [.int (zI v18)]) (rest := []) hx hb hml hown hts hl.1 hK hH hA (c_X0_cross hI hN ho h_fd h_fd_cornerXs h_fd_cornerYs h_fd_crossings k21) zk_t2_16 zk_t2_17 zk_t2_18 zk_t1_13 zk_t2_19 hd_X0_cross rfl ⟨rfl, rfl, Nat.le_of_ble_eq_true rfl, Nat.le_of_ble_eq_true rfl⟩ ⟨Nat.zero_le _, Nat.zero_le _⟩ hk_fd h_fd rfl rfl rfl (Nat.le_of_ble_eq_true rfl) dX0_drawRows_39 (fun σ22 Hσ22 lσ22 hp hH => ?_)
        obtain ⟨h_fd, h_fd_crossings, hn⟩ := hp
        have h_fd_cornerXs := (hn (o + 1) (by omega) (by omega)).trans h_fd_cornerXs
        have h_fd_cornerYs := (hn (o + 2) (by omega) (by omega)).trans h_fd_cornerYs
        have h_pt := (hn (o + 4) (by omega) (by omega)).trans h_pt
        have h_pt_xs := (hn (o + 5) (by omega) (by omega)).trans h_pt_xs
        have h_pt_ys := (hn (o + 6) (by omega) (by omega)).trans h_pt_ys
        have hbg : ∀ i : Nat, i ≠ o → i ≠ (o + 3) → i ≠ (o + 4) → i ≠ (o + 5) → i ≠ (o + 6) → σ22 i = σ0 i := fun i a0 a1 a2 a3 a4 => (hn i a0 a1).trans (hbg i a0 a1 a2 a3 a4)
        refine lv_aload_n hx hb dX0_drawRows_42 rfl (lv_at hl 1 rfl) ?_
        refine zget hx hb inlX0 rfl 8 rfl zk_t3_105 hts hown hK hH hk_fd h_fd rfl dX0_drawRows_43 ?_
        refine lv_iconst (v := zI 2) hx hb dX0_drawRows_46 (by decide +kernel) ?_
        obtain ⟨k23, hf⟩ := zck_some hf
        refine lz_idiv hx hb ⟨⟨k23, by decide⟩, by decide⟩ dX0_drawRows_47 ?_
        obtain ⟨v24, ev24, hf⟩ := zlt_some hf
        refine lz_nm ev24 ?_
        refine lv_istore (lv' := [(5, .int (zI v24)), (4, .int (zI v18)), (0, .ref (ad o)), (1, .int (zI x1)), (2, .int (zI x2)), (3, .int (zI x3))]) hx hb dX0_drawRows_48 hl (by decide) rfl (fun ls hl => ?_)
        refine lv_iload_n hx hb dX0_drawRows_50 rfl (lv_at hl 5 rfl) ?_
        refine lv_iconst (v := zI 2) hx hb dX0_drawRows_51 (by decide +kernel) ?_
        obtain ⟨k25, hf⟩ := zck_some hf
        refine lz_irem hx hb ⟨⟨k25, by decide⟩, by decide⟩ dX0_drawRows_52 ?_
        refine lv_iconst (v := zI 1) hx hb dX0_drawRows_53 (by decide +kernel) ?_
        obtain ⟨k26, hf⟩ := zck_some hf
        refine lz_icmp_ne (tgt := 61) hx hb ⟨k26, by decide⟩ dX0_drawRows_54 (by decide) (fun c27 => ?_) (fun c27 => ?_)
        · replace hf := (if_neg c27).symm.trans hf
          refine lv_iconst (v := zI 0) hx hb dX0_drawRows_61 (by decide +kernel) ?_
          exact JL21_62 a19 u20 pt_xs pt_ys pt_size x3 v18 v24 0 _ _ _ hH h_fd h_fd_cornerXs h_fd_cornerYs h_fd_crossings h_pt h_pt_xs h_pt_ys hbg _ (lv_sub hl [2, 3, 4, 5, 1, 0] rfl) hf
        · replace hf := (if_pos c27).symm.trans hf
          refine lv_iconst (v := zI 1) hx hb dX0_drawRows_57 (by decide +kernel) ?_
          refine lv_goto (tgt := 62) hx hb dX0_drawRows_58 (by decide) ?_
          exact JL21_62 a19 u20 pt_xs pt_ys pt_size x3 v18 v24 1 _ _ _ hH h_fd h_fd_cornerXs h_fd_cornerYs h_fd_crossings h_pt h_pt_xs h_pt_ys hbg _ (lv_sub hl [2, 3, 4, 5, 1, 0] rfl) hf
  unfold f_X0_drawRows at hf
  refine lv_aload_n hx hb dX0_drawRows_0 rfl (lv_at hl 0 rfl) ?_
  obtain ⟨r28, k29, hf⟩ := zb1_some hf
  refine zcVi (C := RX0) (As := []) (rest := []) hx hb hml hown hts hl.1 hK hH hA (c_X0_leastY hI hN ho h_fd h_fd_cornerYs k29) zk_t2_5 zk_t2_6 zk_t2_7 zk_t1_13 zk_t2_8 hd_X0_leastY rfl ⟨rfl, rfl, Nat.le_of_ble_eq_true rfl, Nat.le_of_ble_eq_true rfl⟩ ⟨Nat.zero_le _, Nat.zero_le _⟩ hk_fd h_fd rfl rfl rfl (Nat.le_of_ble_eq_true rfl) dX0_drawRows_1 (fun q31 σ30 Hσ30 lσ30 hp hH => ?_)
  obtain ⟨hr1, hs1⟩ := hp; subst hr1; rw [hs1] at hH
  refine lv_istore_n (lv' := [(1, .int (zI r28)), (0, .ref (ad o))]) hx hb dX0_drawRows_4 rfl hl (by decide) rfl (fun ls hl => ?_)
  refine lv_aload_n hx hb dX0_drawRows_5 rfl (lv_at hl 1 rfl) ?_
  obtain ⟨r32, k33, hf⟩ := zb1_some hf
  refine zcVi (C := RX0) (As := []) (rest := []) hx hb hml hown hts hl.1 hK hH hA (c_X0_greatestY hI hN ho h_fd h_fd_cornerYs k33) zk_t2_12 zk_t2_13 zk_t2_14 zk_t1_13 zk_t2_15 hd_X0_greatestY rfl ⟨rfl, rfl, Nat.le_of_ble_eq_true rfl, Nat.le_of_ble_eq_true rfl⟩ ⟨Nat.zero_le _, Nat.zero_le _⟩ hk_fd h_fd rfl rfl rfl (Nat.le_of_ble_eq_true rfl) dX0_drawRows_6 (fun q35 σ34 Hσ34 lσ34 hp hH => ?_)
  obtain ⟨hr1, hs1⟩ := hp; subst hr1; rw [hs1] at hH
  refine lv_iload_n hx hb dX0_drawRows_9 rfl (lv_at hl 0 rfl) ?_
  refine lz_isub hx hb dX0_drawRows_10 ?_
  refine lv_aload_n hx hb dX0_drawRows_11 rfl (lv_at hl 1 rfl) ?_
  refine zget hx hb inlX0 rfl 9 rfl zk_t3_106 hts hown hK hH hk_fd h_fd rfl dX0_drawRows_12 ?_
  obtain ⟨r36, k37, hf⟩ := zb1_some hf
  refine zcNi (As := [.int (zI (r32 - r28)), .int (zI fd_density)]) (rest := []) hx hb hml hown hts hl.1 hK hH hA (c_X6_roundedUp hI hN   k37) (host := RX6) (List.mem_of_getElem? (i := 6) rfl) zk_t1_239 zk_t1_1 zk_t2_0 hd_X6_roundedUp rfl ⟨rfl, rfl, Nat.le_of_ble_eq_true rfl, Nat.le_of_ble_eq_true rfl⟩ ⟨Nat.zero_le _, Nat.zero_le _⟩ rfl (Nat.le_of_ble_eq_true rfl) dX0_drawRows_15 (fun q39 σ38 Hσ38 lσ38 hp hH => ?_)
  obtain ⟨hr1, hs1⟩ := hp; subst hr1; rw [hs1] at hH
  refine lv_istore_n (lv' := [(2, .int (zI r36)), (1, .int (zI r28)), (0, .ref (ad o))]) hx hb dX0_drawRows_18 rfl hl (by decide) rfl (fun ls hl => ?_)
  refine lv_iconst (v := zI 0) hx hb dX0_drawRows_19 (by decide +kernel) ?_
  refine lv_istore_n (lv' := [(3, .int (zI 0)), (2, .int (zI r36)), (1, .int (zI r28)), (0, .ref (ad o))]) hx hb dX0_drawRows_20 rfl hl (by decide) rfl (fun ls hl => ?_)
  obtain ⟨w41, w42, w43, w44, w45, w46, k40, hf⟩ := zb6_some hf
  refine L21 r28 r36 zFU 0 fd_crossings fd_crossingCount pt_xs pt_ys pt_size w41 w42 w43 w44 w45 w46 k40 _ _ _ hH h_fd h_fd_cornerXs h_fd_cornerYs h_fd_crossings h_pt h_pt_xs h_pt_ys hbg _ (lv_sub hl [3, 2, 1, 0] rfl) (fun σ47 Hσ47 lσ47 hH h_fd h_fd_cornerXs h_fd_cornerYs h_fd_crossings h_pt h_pt_xs h_pt_ys hbg ls hl => ?_)
  cases hf
  exact zretv hx hb hr hlocks hQ hH ⟨h_fd, h_fd_crossings, h_pt, h_pt_xs, h_pt_ys, hbg⟩ dX0_drawRows_112
abbrev rmX0_spans : Room := { frames := 0, cells := 0, slots := 0, locals := 0 }
theorem hd_X0_spans : yX0_spans.cls = RX0 ∧ yX0_spans.cls ≠ "java/lang/invoke/MethodHandle" ∧ yX0_spans.cls ≠ "java/lang/invoke/VarHandle" ∧ (parseMethodDescriptor yX0_spans.desc).map (fun d => d.parameters.length) = some 1 := by decide +kernel
set_option maxHeartbeats 4000000 in
set_option maxRecDepth 100000 in
theorem c_X0_spans {l : Launch} {D : va_G} {cI cZ cF cL cD : ClassId} {ad : Nat → Nat} {N : Nat} (hI : ∀ i j, i < N → j < N → ad i = ad j → i = j) (hN : 19 ≤ N) {o : Nat} (ho : 19 ≤ o ∧ o + 7 ≤ N) {σ0 : Nat → va_E} {sz : Nat} {fd_colour : Int} {fd_layer : Int} {fd_column : Int} {fd_crossings : Int → Int} {fd_cornerCount : Int} {fd_crossingCount : Int} {fd_density : Int} {fd_length : Int} {fd_shift : Int} {fd_pull : Int} {fd_underlay : Int} {fd_drawn : Int} {p1 : Int} {R0 : Int} (h_fd : σ0 o = oC_fd ad o fd_colour fd_layer fd_column fd_cornerCount fd_crossingCount fd_density fd_length fd_shift fd_pull fd_underlay fd_drawn) (h_fd_crossings : σ0 (o + 3) = .inl (cI, 8, .inl (zA fd_crossings))) (hf : f_X0_spans fd_crossings fd_crossingCount p1 = some R0) :
    Met l yX0_spans (Cond.code yX0_spans cX0_spans 3 (some .boolean) :: wsL_law) rmX0_spans (zPre D ad N (zT cI cZ cF cL cD) σ0 sz [.ref (ad o), .int (zI p1)]) (zQi D ad N sz (fun r σ' => r = zI R0 ∧ σ' = σ0)) 0 0 (zFr ad N sz) := by
  refine zMet hI (plainFor_of_name (by decide)) (Nat.le_of_ble_eq_true rfl) ⟨rfl, rfl⟩ ?_
  intro p e s m args below meth c Q hx hb hr hlocks hml hown hts hK hsz hQ hH hA ls hl
  subst hsz
  have hk_fd : o < N := by omega
  have hk_fd_crossings : (o + 3) < N := by omega
  have hl : lv_has ls 3 [(0, .ref (ad o)), (1, .int (zI p1))] := hl
  have hbg : σ0 = σ0 := rfl
  have L2 : ∀ (x1 : Int)  (n : Nat) (x2 : Int) (res : ((Int) ⊕ (Int))), zlp (fun z => f_X0_spans_L2 fd_crossings fd_crossingCount x1 z) n x2 = some res → ∀ (σ : Nat → va_E) (H : Heap) (locs : List Loc) (hH : zH D ad N (zFr ad N s.heap.size) s.heap σ H locs) (h_fd : σ o = oC_fd ad o fd_colour fd_layer fd_column fd_cornerCount fd_crossingCount fd_density fd_length fd_shift fd_pull fd_underlay fd_drawn) (h_fd_crossings : σ (o + 3) = .inl (cI, 8, .inl (zA fd_crossings))) (hbg : σ = σ0) (ls : Array Slot) (hl : lv_has ls 3 [(0, .ref (ad o)), (1, .int (zI x1)), (2, .int (zI x2))]), (∀ (x2' : Int), res = .inl x2' → ∀ (σ : Nat → va_E) (H : Heap) (locs : List Loc) (hH : zH D ad N (zFr ad N s.heap.size) s.heap σ H locs) (h_fd : σ o = oC_fd ad o fd_colour fd_layer fd_column fd_cornerCount fd_crossingCount fd_density fd_length fd_shift fd_pull fd_underlay fd_drawn) (h_fd_crossings : σ (o + 3) = .inl (cI, 8, .inl (zA fd_crossings))) (hbg : σ = σ0) (ls : Array Slot) (hl : lv_has ls 3 []), W p l e rmX0_spans s m args below meth c H locs 0 0 Q (F0 m 53 ls [])) → (∀ b, res = .inr b → some b = some R0) → W p l e rmX0_spans s m args below meth c H locs 0 0 Q (F0 m 2 ls []) := by
    intro x1 n
    induction n with
    | zero => intro x2 res hz; exact (zlp_0 hz).elim
    | succ n ih =>
      intro x2 res hz σ H locs hH h_fd h_fd_crossings hbg ls hl kx kr
      obtain ⟨nx, hf, hnx⟩ := zlp_some hz
      have hf : f_X0_spans_L2 fd_crossings fd_crossingCount x1 x2 = some nx := hf
      unfold f_X0_spans_L2 at hf
      refine lv_iload_n hx hb dX0_spans_2 rfl (lv_at hl 2 rfl) ?_
      refine lv_iconst (v := zI 1) hx hb dX0_spans_3 (by decide +kernel) ?_
      refine lz_iadd hx hb dX0_spans_4 ?_
      refine lv_aload_n hx hb dX0_spans_5 rfl (lv_at hl 0 rfl) ?_
      refine zget hx hb inlX0 rfl 8 rfl zk_t3_105 hts hown hK hH hk_fd h_fd rfl dX0_spans_6 ?_
      obtain ⟨k1, hf⟩ := zck_some hf
      refine lz_icmp_ge (tgt := 53) hx hb k1 dX0_spans_9 (by decide) (fun c2 => ?_) (fun c2 => ?_)
      · replace hf := (if_pos c2).symm.trans hf
        cases hf
        exact kx x2 hnx.symm _ _ _ hH h_fd h_fd_crossings hbg _ (lv_sub hl [] rfl)
      · replace hf := (if_neg c2).symm.trans hf
        refine lv_iload_n hx hb dX0_spans_12 rfl (lv_at hl 2 rfl) ?_
        refine lv_iconst (v := zI 1) hx hb dX0_spans_13 (by decide +kernel) ?_
        refine lz_iadd hx hb dX0_spans_14 ?_
        refine lv_aload_n hx hb dX0_spans_15 rfl (lv_at hl 0 rfl) ?_
        refine zget hx hb inlX0 rfl 5 rfl zk_t3_99 hts hown hK hH hk_fd h_fd rfl dX0_spans_16 ?_
        refine zalen (z := 8) hx hb hK hH hk_fd_crossings 0 h_fd_crossings rfl (show Int32.ofNat 8 = zI 8 by decide +kernel) dX0_spans_19 ?_
        obtain ⟨k3, hf⟩ := zck_some hf
        refine lz_icmp_ge (tgt := 53) hx hb ⟨k3, by decide⟩ dX0_spans_20 (by decide) (fun c4 => ?_) (fun c4 => ?_)
        · replace hf := (if_pos c4).symm.trans hf
          cases hf
          exact kx x2 hnx.symm _ _ _ hH h_fd h_fd_crossings hbg _ (lv_sub hl [] rfl)
        · replace hf := (if_neg c4).symm.trans hf
          refine lv_aload_n hx hb dX0_spans_23 rfl (lv_at hl 0 rfl) ?_
          refine zget hx hb inlX0 rfl 5 rfl zk_t3_99 hts hown hK hH hk_fd h_fd rfl dX0_spans_24 ?_
          refine lv_iload_n hx hb dX0_spans_27 rfl (lv_at hl 2 rfl) ?_
          obtain ⟨k5, hf⟩ := zck_some hf
          refine ziald hx hb hK hH hk_fd_crossings 0 h_fd_crossings rfl k5 rfl dX0_spans_28 ?_
          refine lv_iload_n hx hb dX0_spans_29 rfl (lv_at hl 1 rfl) ?_
          obtain ⟨k6, hf⟩ := zck_some hf
          refine lz_icmp_gt (tgt := 47) hx hb k6 dX0_spans_30 (by decide) (fun c7 => ?_) (fun c7 => ?_)
          · replace hf := (if_pos c7).symm.trans hf
            refine lz_iinc (lv' := [(2, .int (zI (x2 + 2))), (0, .ref (ad o)), (1, .int (zI x1))]) hx hb dX0_spans_47 hl (j := 2) rfl (by decide) rfl (fun ls hl => ?_)
            refine lv_goto (tgt := 2) hx hb dX0_spans_50 (by decide) ?_
            cases hf
            exact ih (x2 + 2) _ hnx _ _ _ hH h_fd h_fd_crossings hbg _ (lv_sub hl [1, 2, 0] rfl) kx kr
          · replace hf := (if_neg c7).symm.trans hf
            refine lv_iload_n hx hb dX0_spans_33 rfl (lv_at hl 1 rfl) ?_
            refine lv_aload_n hx hb dX0_spans_34 rfl (lv_at hl 0 rfl) ?_
            refine zget hx hb inlX0 rfl 5 rfl zk_t3_99 hts hown hK hH hk_fd h_fd rfl dX0_spans_35 ?_
            refine lv_iload_n hx hb dX0_spans_38 rfl (lv_at hl 2 rfl) ?_
            refine lv_iconst (v := zI 1) hx hb dX0_spans_39 (by decide +kernel) ?_
            refine lz_iadd hx hb dX0_spans_40 ?_
            obtain ⟨k8, hf⟩ := zck_some hf
            refine ziald hx hb hK hH hk_fd_crossings 0 h_fd_crossings rfl k8 rfl dX0_spans_41 ?_
            obtain ⟨k9, hf⟩ := zck_some hf
            refine lz_icmp_gt (tgt := 47) hx hb k9 dX0_spans_42 (by decide) (fun c10 => ?_) (fun c10 => ?_)
            · replace hf := (if_pos c10).symm.trans hf
              refine lz_iinc (lv' := [(2, .int (zI (x2 + 2))), (0, .ref (ad o)), (1, .int (zI x1))]) hx hb dX0_spans_47 hl (j := 2) rfl (by decide) rfl (fun ls hl => ?_)
              refine lv_goto (tgt := 2) hx hb dX0_spans_50 (by decide) ?_
              cases hf
              exact ih (x2 + 2) _ hnx _ _ _ hH h_fd h_fd_crossings hbg _ (lv_sub hl [1, 2, 0] rfl) kx kr
            · replace hf := (if_neg c10).symm.trans hf
              refine lv_iconst (v := zI 1) hx hb dX0_spans_45 (by decide +kernel) ?_
              cases hf
              replace hf := kr _ hnx.symm
              cases hf
              exact zretz hx hb hr hlocks hQ hH ⟨rfl, hbg⟩ (z_nar _ (Or.inr rfl)) dX0_spans_46
  unfold f_X0_spans at hf
  refine lv_iconst (v := zI 0) hx hb dX0_spans_0 (by decide +kernel) ?_
  refine lv_istore_n (lv' := [(2, .int (zI 0)), (0, .ref (ad o)), (1, .int (zI p1))]) hx hb dX0_spans_1 rfl hl (by decide) rfl (fun ls hl => ?_)
  obtain ⟨x14, k11, hf⟩ := zbs_some hf
  refine L2 p1 zFU 0 x14 k11 _ _ _ hH h_fd h_fd_crossings hbg _ (lv_sub hl [1, 2, 0] rfl) (fun w12 hres σ13 Hσ13 lσ13 hH h_fd h_fd_crossings hbg ls hl => ?_) (fun b hres => ?_)
  rotate_left
  · rw [hres] at hf; exact hf
  rw [hres] at hf
  replace hf := show _ = _ from hf
  simp only [zsel] at hf
  refine lv_iconst (v := zI 0) hx hb dX0_spans_53 (by decide +kernel) ?_
  cases hf
  exact zretz hx hb hr hlocks hQ hH ⟨rfl, hbg⟩ (z_nar _ (Or.inl rfl)) dX0_spans_54
abbrev rmX4_firstX : Room := { frames := 0, cells := 0, slots := 0, locals := 0 }
theorem hd_X4_firstX : yX4_firstX.cls = RX4 ∧ yX4_firstX.cls ≠ "java/lang/invoke/MethodHandle" ∧ yX4_firstX.cls ≠ "java/lang/invoke/VarHandle" ∧ (parseMethodDescriptor yX4_firstX.desc).map (fun d => d.parameters.length) = some 0 := by decide +kernel
set_option maxHeartbeats 4000000 in
set_option maxRecDepth 100000 in
theorem c_X4_firstX {l : Launch} {D : va_G} {cI cZ cF cL cD : ClassId} {ad : Nat → Nat} {N : Nat} (hI : ∀ i j, i < N → j < N → ad i = ad j → i = j) (hN : 19 ≤ N) {o : Nat} (ho : 19 ≤ o ∧ o + 7 ≤ N) {σ0 : Nat → va_E} {sz : Nat} {pt_xs : Int → Int} {pt_size : Int} {R0 : Int} (h_pt : σ0 (o + 4) = oC_pt ad o pt_size) (h_pt_xs : σ0 (o + 5) = .inl (cI, 2078, .inl (zA pt_xs))) (hf : f_X4_firstX pt_xs pt_size = some R0) :
    Met l yX4_firstX (Cond.code yX4_firstX cX4_firstX 1 (some .int) :: wsL_law) rmX4_firstX (zPre D ad N (zT cI cZ cF cL cD) σ0 sz [.ref (ad (o + 4))]) (zQi D ad N sz (fun r σ' => r = zI R0 ∧ σ' = σ0)) 0 0 (zFr ad N sz) := by
  refine zMet hI (plainFor_of_name (by decide)) (Nat.le_of_ble_eq_true rfl) ⟨rfl, rfl⟩ ?_
  intro p e s m args below meth c Q hx hb hr hlocks hml hown hts hK hsz hQ hH hA ls hl
  subst hsz
  have hk_pt : (o + 4) < N := by omega
  have hk_pt_xs : (o + 5) < N := by omega
  have hl : lv_has ls 1 [(0, .ref (ad (o + 4)))] := hl
  have hbg : σ0 = σ0 := rfl
  unfold f_X4_firstX at hf
  refine lv_aload_n hx hb dX4_firstX_0 rfl (lv_at hl 0 rfl) ?_
  refine zget hx hb inlX4 rfl 2 rfl zk_t3_78 hts hown hK hH hk_pt h_pt rfl dX4_firstX_1 ?_
  obtain ⟨k1, hf⟩ := zck_some hf
  refine lz_if_le (tgt := 16) hx hb k1 dX4_firstX_4 (by decide) (fun c2 => ?_) (fun c2 => ?_)
  · replace hf := (if_pos c2).symm.trans hf
    refine lv_iconst (v := zI 0) hx hb dX4_firstX_16 (by decide +kernel) ?_
    cases hf
    exact zreti hx hb hr hlocks hQ hH ⟨rfl, hbg⟩ dX4_firstX_17
  · replace hf := (if_neg c2).symm.trans hf
    refine lv_aload_n hx hb dX4_firstX_7 rfl (lv_at hl 0 rfl) ?_
    refine zget hx hb inlX4 rfl 0 rfl zk_t3_72 hts hown hK hH hk_pt h_pt rfl dX4_firstX_8 ?_
    refine lv_iconst (v := zI 0) hx hb dX4_firstX_11 (by decide +kernel) ?_
    refine ziald hx hb hK hH hk_pt_xs 0 h_pt_xs rfl (by decide) rfl dX4_firstX_12 ?_
    refine lv_goto (tgt := 17) hx hb dX4_firstX_13 (by decide) ?_
    cases hf
    exact zreti hx hb hr hlocks hQ hH ⟨rfl, hbg⟩ dX4_firstX_17
abbrev rmX4_firstY : Room := { frames := 0, cells := 0, slots := 0, locals := 0 }
theorem hd_X4_firstY : yX4_firstY.cls = RX4 ∧ yX4_firstY.cls ≠ "java/lang/invoke/MethodHandle" ∧ yX4_firstY.cls ≠ "java/lang/invoke/VarHandle" ∧ (parseMethodDescriptor yX4_firstY.desc).map (fun d => d.parameters.length) = some 0 := by decide +kernel
set_option maxHeartbeats 4000000 in
set_option maxRecDepth 100000 in
theorem c_X4_firstY {l : Launch} {D : va_G} {cI cZ cF cL cD : ClassId} {ad : Nat → Nat} {N : Nat} (hI : ∀ i j, i < N → j < N → ad i = ad j → i = j) (hN : 19 ≤ N) {o : Nat} (ho : 19 ≤ o ∧ o + 7 ≤ N) {σ0 : Nat → va_E} {sz : Nat} {pt_ys : Int → Int} {pt_size : Int} {R0 : Int} (h_pt : σ0 (o + 4) = oC_pt ad o pt_size) (h_pt_ys : σ0 (o + 6) = .inl (cI, 2078, .inl (zA pt_ys))) (hf : f_X4_firstY pt_ys pt_size = some R0) :
    Met l yX4_firstY (Cond.code yX4_firstY cX4_firstY 1 (some .int) :: wsL_law) rmX4_firstY (zPre D ad N (zT cI cZ cF cL cD) σ0 sz [.ref (ad (o + 4))]) (zQi D ad N sz (fun r σ' => r = zI R0 ∧ σ' = σ0)) 0 0 (zFr ad N sz) := by
  refine zMet hI (plainFor_of_name (by decide)) (Nat.le_of_ble_eq_true rfl) ⟨rfl, rfl⟩ ?_
  intro p e s m args below meth c Q hx hb hr hlocks hml hown hts hK hsz hQ hH hA ls hl
  subst hsz
  have hk_pt : (o + 4) < N := by omega
  have hk_pt_ys : (o + 6) < N := by omega
  have hl : lv_has ls 1 [(0, .ref (ad (o + 4)))] := hl
  have hbg : σ0 = σ0 := rfl
  unfold f_X4_firstY at hf
  refine lv_aload_n hx hb dX4_firstY_0 rfl (lv_at hl 0 rfl) ?_
  refine zget hx hb inlX4 rfl 2 rfl zk_t3_78 hts hown hK hH hk_pt h_pt rfl dX4_firstY_1 ?_
  obtain ⟨k1, hf⟩ := zck_some hf
  refine lz_if_le (tgt := 16) hx hb k1 dX4_firstY_4 (by decide) (fun c2 => ?_) (fun c2 => ?_)
  · replace hf := (if_pos c2).symm.trans hf
    refine lv_iconst (v := zI 0) hx hb dX4_firstY_16 (by decide +kernel) ?_
    cases hf
    exact zreti hx hb hr hlocks hQ hH ⟨rfl, hbg⟩ dX4_firstY_17
  · replace hf := (if_neg c2).symm.trans hf
    refine lv_aload_n hx hb dX4_firstY_7 rfl (lv_at hl 0 rfl) ?_
    refine zget hx hb inlX4 rfl 1 rfl zk_t3_75 hts hown hK hH hk_pt h_pt rfl dX4_firstY_8 ?_
    refine lv_iconst (v := zI 0) hx hb dX4_firstY_11 (by decide +kernel) ?_
    refine ziald hx hb hK hH hk_pt_ys 0 h_pt_ys rfl (by decide) rfl dX4_firstY_12 ?_
    refine lv_goto (tgt := 17) hx hb dX4_firstY_13 (by decide) ?_
    cases hf
    exact zreti hx hb hr hlocks hQ hH ⟨rfl, hbg⟩ dX4_firstY_17
