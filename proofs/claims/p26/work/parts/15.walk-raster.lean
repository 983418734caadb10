abbrev rmX5_touch : Room := { frames := 1, cells := 0, slots := 0, locals := 22 }
theorem hd_X5_touch : yX5_touch.cls = RX5 ∧ yX5_touch.cls ≠ "java/lang/invoke/MethodHandle" ∧ yX5_touch.cls ≠ "java/lang/invoke/VarHandle" ∧ (parseMethodDescriptor yX5_touch.desc).map (fun d => d.parameters.length) = some 2 := by decide +kernel
set_option maxHeartbeats 4000000 in
set_option maxRecDepth 100000 in
theorem c_X5_touch {l : Launch} {D : va_G} {cI cZ cF cL cD : ClassId} {ad : Nat → Nat} {N : Nat} (hI : ∀ i j, i < N → j < N → ad i = ad j → i = j) (hN : 19 ≤ N) {σ0 : Nat → va_E} {sz : Nat} {ra_cells : Int → Int} {ra_cellCount : Int} {p1 : Int} {p2 : Int} {R_ra_cells : Int → Int} {R_ra_cellCount : Int} (h_ra : σ0 10 = oC_ra ad ra_cellCount) (h_ra_cells : σ0 11 = .inl (cZ, 1024, .inl (zA ra_cells))) (hf : f_X5_touch ra_cells ra_cellCount p1 p2 = some (R_ra_cells, R_ra_cellCount)) :
    Met l yX5_touch (Cond.code yX5_touch cX5_touch 4 none :: wsL_law) rmX5_touch (zPre D ad N (zT cI cZ cF cL cD) σ0 sz [.ref (ad 10), .int (zI p1), .int (zI p2)]) (zQv D ad N sz (fun σ' => σ' 10 = oC_ra ad R_ra_cellCount ∧ σ' 11 = .inl (cZ, 1024, .inl (zA R_ra_cells)) ∧ ∀ i : Nat, i ≠ 10 → i ≠ 11 → σ' i = σ0 i)) 0 0 (zFr ad N sz) := by
  refine zMet hI (plainFor_of_name (by decide)) (Nat.le_of_ble_eq_true rfl) ⟨rfl, rfl⟩ ?_
  intro p e s m args below meth c Q hx hb hr hlocks hml hown hts hK hsz hQ hH hA ls hl
  subst hsz
  have hk_ra : 10 < N := by omega
  have hk_ra_cells : 11 < N := by omega
  have hl : lv_has ls 4 [(0, .ref (ad 10)), (1, .int (zI p1)), (2, .int (zI p2))] := hl
  have hbg : ∀ i : Nat, i ≠ 10 → i ≠ 11 → σ0 i = σ0 i := fun _ _ _ => rfl
  unfold f_X5_touch at hf
  refine lv_iload_n hx hb dX5_touch_0 rfl (lv_at hl 1 rfl) ?_
  refine lv_iconst (v := zI 0) hx hb dX5_touch_1 (by decide +kernel) ?_
  refine lv_bipush (v := zI 31) hx hb dX5_touch_2 (by decide +kernel) ?_
  obtain ⟨r1, k2, hf⟩ := zb1_some hf
  refine zcNi (As := [.int (zI p1), .int (zI 0), .int (zI 31)]) (rest := []) hx hb hml hown hts hl.1 hK hH hA (c_X6_isWithin hI hN   k2) (host := RX6) (List.mem_of_getElem? (i := 12) rfl) zk_t2_88 zk_t1_1 zk_t2_89 hd_X6_isWithin rfl ⟨rfl, rfl, Nat.le_of_ble_eq_true rfl, Nat.le_of_ble_eq_true rfl⟩ ⟨Nat.zero_le _, Nat.zero_le _⟩ rfl (Nat.le_of_ble_eq_true rfl) dX5_touch_4 (fun q4 σ3 Hσ3 lσ3 hp hH => ?_)
  obtain ⟨hr1, hs1⟩ := hp; subst hr1; rw [hs1] at hH
  obtain ⟨k5, hf⟩ := zck_some hf
  refine lz_if_eq (tgt := 20) hx hb k5 dX5_touch_7 (by decide) (fun c6 => ?_) (fun c6 => ?_)
  · replace hf := (if_pos c6).symm.trans hf
    cases hf
    exact zretv hx hb hr hlocks hQ hH ⟨h_ra, h_ra_cells, hbg⟩ dX5_touch_20
  · replace hf := (if_neg c6).symm.trans hf
    refine lv_iload_n hx hb dX5_touch_10 rfl (lv_at hl 2 rfl) ?_
    refine lv_iconst (v := zI 0) hx hb dX5_touch_11 (by decide +kernel) ?_
    refine lv_bipush (v := zI 31) hx hb dX5_touch_12 (by decide +kernel) ?_
    obtain ⟨r7, k8, hf⟩ := zb1_some hf
    refine zcNi (As := [.int (zI p2), .int (zI 0), .int (zI 31)]) (rest := []) hx hb hml hown hts hl.1 hK hH hA (c_X6_isWithin hI hN   k8) (host := RX6) (List.mem_of_getElem? (i := 12) rfl) zk_t2_88 zk_t1_1 zk_t2_89 hd_X6_isWithin rfl ⟨rfl, rfl, Nat.le_of_ble_eq_true rfl, Nat.le_of_ble_eq_true rfl⟩ ⟨Nat.zero_le _, Nat.zero_le _⟩ rfl (Nat.le_of_ble_eq_true rfl) dX5_touch_14 (fun q10 σ9 Hσ9 lσ9 hp hH => ?_)
    obtain ⟨hr1, hs1⟩ := hp; subst hr1; rw [hs1] at hH
    obtain ⟨k11, hf⟩ := zck_some hf
    refine lz_if_ne (tgt := 21) hx hb k11 dX5_touch_17 (by decide) (fun c12 => ?_) (fun c12 => ?_)
    · replace hf := (if_neg c12).symm.trans hf
      refine lv_iload_n hx hb dX5_touch_21 rfl (lv_at hl 2 rfl) ?_
      refine lv_bipush (v := zI 32) hx hb dX5_touch_22 (by decide +kernel) ?_
      refine lz_imul hx hb dX5_touch_24 ?_
      refine lv_iload_n hx hb dX5_touch_25 rfl (lv_at hl 1 rfl) ?_
      refine lz_iadd hx hb dX5_touch_26 ?_
      obtain ⟨v13, ev13, hf⟩ := zlt_some hf
      refine lz_nm ev13 ?_
      refine lv_istore_n (lv' := [(3, .int (zI v13)), (0, .ref (ad 10)), (1, .int (zI p1)), (2, .int (zI p2))]) hx hb dX5_touch_27 rfl hl (by decide) rfl (fun ls hl => ?_)
      refine lv_iload_n hx hb dX5_touch_28 rfl (lv_at hl 0 rfl) ?_
      refine lv_aload_n hx hb dX5_touch_29 rfl (lv_at hl 1 rfl) ?_
      refine zget hx hb inlX5 rfl 0 rfl zk_t1_80 hts hown hK hH hk_ra h_ra rfl dX5_touch_30 ?_
      refine zalen (z := 1024) hx hb hK hH hk_ra_cells 1 h_ra_cells rfl (show Int32.ofNat 1024 = zI 1024 by decide +kernel) dX5_touch_33 ?_
      obtain ⟨k14, hf⟩ := zck_some hf
      refine lz_icmp_ge (tgt := 63) hx hb ⟨k14, by decide⟩ dX5_touch_34 (by decide) (fun c15 => ?_) (fun c15 => ?_)
      · replace hf := (if_pos c15).symm.trans hf
        cases hf
        exact zretv hx hb hr hlocks hQ hH ⟨h_ra, h_ra_cells, hbg⟩ dX5_touch_63
      · replace hf := (if_neg c15).symm.trans hf
        refine lv_aload_n hx hb dX5_touch_37 rfl (lv_at hl 1 rfl) ?_
        refine zget hx hb inlX5 rfl 0 rfl zk_t1_80 hts hown hK hH hk_ra h_ra rfl dX5_touch_38 ?_
        refine lv_iload_n hx hb dX5_touch_41 rfl (lv_at hl 0 rfl) ?_
        obtain ⟨k16, hf⟩ := zck_some hf
        refine zzald hx hb hK hH hk_ra_cells 1 h_ra_cells rfl k16 rfl dX5_touch_42 ?_
        obtain ⟨k17, hf⟩ := zck_some hf
        refine lz_if_ne (tgt := 63) hx hb k17 dX5_touch_43 (by decide) (fun c18 => ?_) (fun c18 => ?_)
        · replace hf := (if_neg c18).symm.trans hf
          cases hf
          exact zretv hx hb hr hlocks hQ hH ⟨h_ra, h_ra_cells, hbg⟩ dX5_touch_63
        · replace hf := (if_pos c18).symm.trans hf
          refine lv_aload_n hx hb dX5_touch_46 rfl (lv_at hl 1 rfl) ?_
          refine zget hx hb inlX5 rfl 0 rfl zk_t1_80 hts hown hK hH hk_ra h_ra rfl dX5_touch_47 ?_
          refine lv_iload_n hx hb dX5_touch_50 rfl (lv_at hl 0 rfl) ?_
          refine lv_iconst (v := zI 1) hx hb dX5_touch_51 (by decide +kernel) ?_
          obtain ⟨k19, hf⟩ := zck_some hf
          obtain ⟨a21, ea21, hf⟩ := zlt_some hf
          refine zzast hx hb hK hH hk_ra_cells 1 h_ra_cells rfl k19 (Or.inr rfl) rfl dX5_touch_52 (fun σ20 Hσ20 lσ20 h_ra_cells hn hH => ?_)
          rw [← ea21] at h_ra_cells
          have h_ra := (hn 10 (by decide)).trans h_ra
          have hbg : ∀ i : Nat, i ≠ 10 → i ≠ 11 → σ20 i = σ0 i := fun i a0 a1 => (hn i a1).trans (hbg i a0 a1)
          refine lv_aload_n hx hb dX5_touch_53 rfl (lv_at hl 1 rfl) ?_
          refine lv_dup hx hb dX5_touch_54 rfl ?_
          refine zget hx hb inlX5 rfl 1 rfl zk_t1_81 hts hown hK hH hk_ra h_ra rfl dX5_touch_55 ?_
          refine lv_iconst (v := zI 1) hx hb dX5_touch_58 (by decide +kernel) ?_
          refine lz_iadd hx hb dX5_touch_59 ?_
          obtain ⟨v22, ev22, hf⟩ := zlt_some hf
          refine lz_nm ev22 ?_
          refine zput hx hb inlX5 tyX5 tyX5_ok nmX5 rfl 1 rfl zk_t1_81 rfl hts hown hK hH hk_ra h_ra rfl rfl rfl dX5_touch_60 (fun σ23 Hσ23 lσ23 h_ra hn hH => ?_)
          have h_ra : σ23 10 = oC_ra ad v22 := h_ra
          have h_ra_cells := (hn 11 (by decide)).trans h_ra_cells
          have hbg : ∀ i : Nat, i ≠ 10 → i ≠ 11 → σ23 i = σ0 i := fun i a0 a1 => (hn i a0).trans (hbg i a0 a1)
          cases hf
          exact zretv hx hb hr hlocks hQ hH ⟨h_ra, h_ra_cells, hbg⟩ dX5_touch_63
    · replace hf := (if_pos c12).symm.trans hf
      cases hf
      exact zretv hx hb hr hlocks hQ hH ⟨h_ra, h_ra_cells, hbg⟩ dX5_touch_20
abbrev rmX5_walkTo : Room := { frames := 2, cells := 0, slots := 0, locals := 45 }
theorem hd_X5_walkTo : yX5_walkTo.cls = RX5 ∧ yX5_walkTo.cls ≠ "java/lang/invoke/MethodHandle" ∧ yX5_walkTo.cls ≠ "java/lang/invoke/VarHandle" ∧ (parseMethodDescriptor yX5_walkTo.desc).map (fun d => d.parameters.length) = some 4 := by decide +kernel
set_option maxHeartbeats 4000000 in
set_option maxRecDepth 100000 in
theorem c_X5_walkTo {l : Launch} {D : va_G} {cI cZ cF cL cD : ClassId} {ad : Nat → Nat} {N : Nat} (hI : ∀ i j, i < N → j < N → ad i = ad j → i = j) (hN : 19 ≤ N) {σ0 : Nat → va_E} {sz : Nat} {ra_cells : Int → Int} {ra_cellCount : Int} {p1 : Int} {p2 : Int} {p3 : Int} {p4 : Int} {R_ra_cells : Int → Int} {R_ra_cellCount : Int} (h_ra : σ0 10 = oC_ra ad ra_cellCount) (h_ra_cells : σ0 11 = .inl (cZ, 1024, .inl (zA ra_cells))) (hf : f_X5_walkTo ra_cells ra_cellCount p1 p2 p3 p4 = some (R_ra_cells, R_ra_cellCount)) :
    Met l yX5_walkTo (Cond.code yX5_walkTo cX5_walkTo 7 none :: wsL_law) rmX5_walkTo (zPre D ad N (zT cI cZ cF cL cD) σ0 sz [.ref (ad 10), .int (zI p1), .int (zI p2), .int (zI p3), .int (zI p4)]) (zQv D ad N sz (fun σ' => σ' 10 = oC_ra ad R_ra_cellCount ∧ σ' 11 = .inl (cZ, 1024, .inl (zA R_ra_cells)) ∧ ∀ i : Nat, i ≠ 10 → i ≠ 11 → σ' i = σ0 i)) 0 0 (zFr ad N sz) := by
  refine zMet hI (plainFor_of_name (by decide)) (Nat.le_of_ble_eq_true rfl) ⟨rfl, rfl⟩ ?_
  intro p e s m args below meth c Q hx hb hr hlocks hml hown hts hK hsz hQ hH hA ls hl
  subst hsz
  have hk_ra : 10 < N := by omega
  have hk_ra_cells : 11 < N := by omega
  have hl : lv_has ls 7 [(0, .ref (ad 10)), (1, .int (zI p1)), (2, .int (zI p2)), (3, .int (zI p3)), (4, .int (zI p4))] := hl
  have hbg : ∀ i : Nat, i ≠ 10 → i ≠ 11 → σ0 i = σ0 i := fun _ _ _ => rfl
  have L28 : ∀ (x1 : Int) (x2 : Int) (x3 : Int) (x4 : Int) (x5 : Int)  (n : Nat) (x6 : Int) (ra_cells : Int → Int) (ra_cellCount : Int) (x6' : Int) (ra_cells' : Int → Int) (ra_cellCount' : Int), zlp (fun z => f_X5_walkTo_L28 x1 x2 x3 x4 x5 z.1 z.2.1 z.2.2) n (x6, ra_cells, ra_cellCount) = some (x6', ra_cells', ra_cellCount') → ∀ (σ : Nat → va_E) (H : Heap) (locs : List Loc) (hH : zH D ad N (zFr ad N s.heap.size) s.heap σ H locs) (h_ra : σ 10 = oC_ra ad ra_cellCount) (h_ra_cells : σ 11 = .inl (cZ, 1024, .inl (zA ra_cells))) (hbg : ∀ i : Nat, i ≠ 10 → i ≠ 11 → σ i = σ0 i) (ls : Array Slot) (hl : lv_has ls 7 [(0, .ref (ad 10)), (1, .int (zI x1)), (2, .int (zI x2)), (3, .int (zI x3)), (4, .int (zI x4)), (5, .int (zI x5)), (6, .int (zI x6))]), (∀ (σ : Nat → va_E) (H : Heap) (locs : List Loc) (hH : zH D ad N (zFr ad N s.heap.size) s.heap σ H locs) (h_ra : σ 10 = oC_ra ad (ra_cellCount')) (h_ra_cells : σ 11 = .inl (cZ, 1024, .inl (zA (ra_cells')))) (hbg : ∀ i : Nat, i ≠ 10 → i ≠ 11 → σ i = σ0 i) (ls : Array Slot) (hl : lv_has ls 7 []), W p l e rmX5_walkTo s m args below meth c H locs 0 0 Q (F0 m 64 ls [])) → W p l e rmX5_walkTo s m args below meth c H locs 0 0 Q (F0 m 28 ls []) := by
    intro x1 x2 x3 x4 x5 n
    induction n with
    | zero => intro x6 ra_cells ra_cellCount x6' ra_cells' ra_cellCount' hz; exact (zlp_0 hz).elim
    | succ n ih =>
      intro x6 ra_cells ra_cellCount x6' ra_cells' ra_cellCount' hz σ H locs hH h_ra h_ra_cells hbg ls hl kx
      obtain ⟨nx, hf, hnx⟩ := zlp_some hz
      have hf : f_X5_walkTo_L28 x1 x2 x3 x4 x5 x6 ra_cells ra_cellCount = some nx := hf
      unfold f_X5_walkTo_L28 at hf
      refine lv_iload hx hb dX5_walkTo_28 (lv_at hl 6 rfl) ?_
      refine lv_iload hx hb dX5_walkTo_30 (lv_at hl 5 rfl) ?_
      obtain ⟨k1, hf⟩ := zck_some hf
      refine lz_icmp_gt (tgt := 64) hx hb k1 dX5_walkTo_32 (by decide) (fun c2 => ?_) (fun c2 => ?_)
      · replace hf := (if_pos c2).symm.trans hf
        cases hf
        cases hnx
        exact kx _ _ _ hH h_ra h_ra_cells hbg _ (lv_sub hl [] rfl)
      · replace hf := (if_neg c2).symm.trans hf
        refine lv_aload_n hx hb dX5_walkTo_35 rfl (lv_at hl 0 rfl) ?_
        refine lv_iload_n hx hb dX5_walkTo_36 rfl (lv_at hl 1 rfl) ?_
        refine lv_iload_n hx hb dX5_walkTo_37 rfl (lv_at hl 3 rfl) ?_
        refine lv_iload hx hb dX5_walkTo_38 (lv_at hl 6 rfl) ?_
        refine lv_iload hx hb dX5_walkTo_40 (lv_at hl 5 rfl) ?_
        obtain ⟨r3, k4, hf⟩ := zb1_some hf
        refine zcNi (As := [.int (zI x1), .int (zI x3), .int (zI x6), .int (zI x5)]) (rest := [.ref (ad 10)]) hx hb hml hown hts hl.1 hK hH hA (c_X6_placeOf hI hN   k4) (host := RX6) (List.mem_of_getElem? (i := 11) rfl) zk_t1_217 zk_t1_1 zk_t1_218 hd_X6_placeOf rfl ⟨rfl, rfl, Nat.le_of_ble_eq_true rfl, Nat.le_of_ble_eq_true rfl⟩ ⟨Nat.zero_le _, Nat.zero_le _⟩ rfl (Nat.le_of_ble_eq_true rfl) dX5_walkTo_42 (fun q6 σ5 Hσ5 lσ5 hp hH => ?_)
        obtain ⟨hr1, hs1⟩ := hp; subst hr1; rw [hs1] at hH
        refine lv_iload_n hx hb dX5_walkTo_45 rfl (lv_at hl 2 rfl) ?_
        refine lv_iload hx hb dX5_walkTo_46 (lv_at hl 4 rfl) ?_
        refine lv_iload hx hb dX5_walkTo_48 (lv_at hl 6 rfl) ?_
        refine lv_iload hx hb dX5_walkTo_50 (lv_at hl 5 rfl) ?_
        obtain ⟨r7, k8, hf⟩ := zb1_some hf
        refine zcNi (As := [.int (zI x2), .int (zI x4), .int (zI x6), .int (zI x5)]) (rest := [.int (zI r3), .ref (ad 10)]) hx hb hml hown hts hl.1 hK hH hA (c_X6_placeOf hI hN   k8) (host := RX6) (List.mem_of_getElem? (i := 11) rfl) zk_t1_217 zk_t1_1 zk_t1_218 hd_X6_placeOf rfl ⟨rfl, rfl, Nat.le_of_ble_eq_true rfl, Nat.le_of_ble_eq_true rfl⟩ ⟨Nat.zero_le _, Nat.zero_le _⟩ rfl (Nat.le_of_ble_eq_true rfl) dX5_walkTo_52 (fun q10 σ9 Hσ9 lσ9 hp hH => ?_)
        obtain ⟨hr1, hs1⟩ := hp; subst hr1; rw [hs1] at hH
        obtain ⟨a11, u12, k13, hf⟩ := zb2_some hf
        refine zcVv (C := RX5) (As := [.int (zI r3), .int (zI r7)]) (rest := []) hx hb hml hown hts hl.1 hK hH hA (c_X5_touch hI hN  h_ra h_ra_cells k13) zk_t2_198 zk_t2_200 zk_s1_14 zk_t1_3 zk_t2_201 hd_X5_touch rfl ⟨rfl, rfl, Nat.le_of_ble_eq_true rfl, Nat.le_of_ble_eq_true rfl⟩ ⟨Nat.zero_le _, Nat.zero_le _⟩ hk_ra h_ra rfl rfl rfl (Nat.le_of_ble_eq_true rfl) dX5_walkTo_55 (fun σ14 Hσ14 lσ14 hp hH => ?_)
        obtain ⟨h_ra, h_ra_cells, hn⟩ := hp
        have hbg : ∀ i : Nat, i ≠ 10 → i ≠ 11 → σ14 i = σ0 i := fun i a0 a1 => (hn i a0 a1).trans (hbg i a0 a1)
        refine lz_iinc (lv' := [(6, .int (zI (x6 + 1))), (0, .ref (ad 10)), (1, .int (zI x1)), (2, .int (zI x2)), (3, .int (zI x3)), (4, .int (zI x4)), (5, .int (zI x5))]) hx hb dX5_walkTo_58 hl (j := 6) rfl (by decide) rfl (fun ls hl => ?_)
        refine lv_goto (tgt := 28) hx hb dX5_walkTo_61 (by decide) ?_
        cases hf
        exact ih (x6 + 1) a11 u12 _ _ _ hnx _ _ _ hH h_ra h_ra_cells hbg _ (lv_sub hl [1, 2, 3, 4, 5, 6, 0] rfl) kx
  unfold f_X5_walkTo at hf
  refine lv_iload_n hx hb dX5_walkTo_0 rfl (lv_at hl 3 rfl) ?_
  refine lv_iload_n hx hb dX5_walkTo_1 rfl (lv_at hl 1 rfl) ?_
  refine lz_isub hx hb dX5_walkTo_2 ?_
  refine lv_iload hx hb dX5_walkTo_3 (lv_at hl 4 rfl) ?_
  refine lv_iload_n hx hb dX5_walkTo_5 rfl (lv_at hl 2 rfl) ?_
  refine lz_isub hx hb dX5_walkTo_6 ?_
  obtain ⟨r15, k16, hf⟩ := zb1_some hf
  refine zcNi (As := [.int (zI (p3 - p1)), .int (zI (p4 - p2))]) (rest := []) hx hb hml hown hts hl.1 hK hH hA (c_X6_greaterDifference hI hN   k16) (host := RX6) (List.mem_of_getElem? (i := 10) rfl) zk_t1_207 zk_t1_1 zk_t1_208 hd_X6_greaterDifference rfl ⟨rfl, rfl, Nat.le_of_ble_eq_true rfl, Nat.le_of_ble_eq_true rfl⟩ ⟨Nat.zero_le _, Nat.zero_le _⟩ rfl (Nat.le_of_ble_eq_true rfl) dX5_walkTo_7 (fun q18 σ17 Hσ17 lσ17 hp hH => ?_)
  obtain ⟨hr1, hs1⟩ := hp; subst hr1; rw [hs1] at hH
  refine lv_istore (lv' := [(5, .int (zI r15)), (0, .ref (ad 10)), (1, .int (zI p1)), (2, .int (zI p2)), (3, .int (zI p3)), (4, .int (zI p4))]) hx hb dX5_walkTo_10 hl (by decide) rfl (fun ls hl => ?_)
  refine lv_iload hx hb dX5_walkTo_12 (lv_at hl 0 rfl) ?_
  obtain ⟨k19, hf⟩ := zck_some hf
  refine lz_if_eq (tgt := 24) hx hb k19 dX5_walkTo_14 (by decide) (fun c20 => ?_) (fun c20 => ?_)
  · replace hf := (if_pos c20).symm.trans hf
    cases hf
    exact zretv hx hb hr hlocks hQ hH ⟨h_ra, h_ra_cells, hbg⟩ dX5_walkTo_24
  · replace hf := (if_neg c20).symm.trans hf
    refine lv_iload hx hb dX5_walkTo_17 (lv_at hl 0 rfl) ?_
    refine lv_bipush (v := zI 12) hx hb dX5_walkTo_19 (by decide +kernel) ?_
    obtain ⟨k21, hf⟩ := zck_some hf
    refine lz_icmp_le (tgt := 25) hx hb ⟨k21, by decide⟩ dX5_walkTo_21 (by decide) (fun c22 => ?_) (fun c22 => ?_)
    · replace hf := (if_pos c22).symm.trans hf
      refine lv_iconst (v := zI 0) hx hb dX5_walkTo_25 (by decide +kernel) ?_
      refine lv_istore (lv' := [(6, .int (zI 0)), (5, .int (zI r15)), (0, .ref (ad 10)), (1, .int (zI p1)), (2, .int (zI p2)), (3, .int (zI p3)), (4, .int (zI p4))]) hx hb dX5_walkTo_26 hl (by decide) rfl (fun ls hl => ?_)
      obtain ⟨w24, w25, w26, k23, hf⟩ := zb3_some hf
      refine L28 p1 p2 p3 p4 r15 zFU 0 ra_cells ra_cellCount w24 w25 w26 k23 _ _ _ hH h_ra h_ra_cells hbg _ (lv_sub hl [2, 3, 4, 5, 6, 1, 0] rfl) (fun σ27 Hσ27 lσ27 hH h_ra h_ra_cells hbg ls hl => ?_)
      cases hf
      exact zretv hx hb hr hlocks hQ hH ⟨h_ra, h_ra_cells, hbg⟩ dX5_walkTo_64
    · replace hf := (if_neg c22).symm.trans hf
      cases hf
      exact zretv hx hb hr hlocks hQ hH ⟨h_ra, h_ra_cells, hbg⟩ dX5_walkTo_24
abbrev rmX5_walk : Room := { frames := 3, cells := 0, slots := 0, locals := 71 }
theorem hd_X5_walk : yX5_walk.cls = RX5 ∧ yX5_walk.cls ≠ "java/lang/invoke/MethodHandle" ∧ yX5_walk.cls ≠ "java/lang/invoke/VarHandle" ∧ (parseMethodDescriptor yX5_walk.desc).map (fun d => d.parameters.length) = some 1 := by decide +kernel
set_option maxHeartbeats 4000000 in
set_option maxRecDepth 100000 in
theorem c_X5_walk {l : Launch} {D : va_G} {cI cZ cF cL cD : ClassId} {ad : Nat → Nat} {N : Nat} (hI : ∀ i j, i < N → j < N → ad i = ad j → i = j) (hN : 19 ≤ N) {o : Nat} (ho : 19 ≤ o ∧ o + 7 ≤ N) {σ0 : Nat → va_E} {sz : Nat} {pt_xs : Int → Int} {pt_ys : Int → Int} {pt_size : Int} {ra_cells : Int → Int} {ra_cellCount : Int} {R_ra_cells : Int → Int} {R_ra_cellCount : Int} (h_pt : σ0 (o + 4) = oC_pt ad o pt_size) (h_pt_xs : σ0 (o + 5) = .inl (cI, 2078, .inl (zA pt_xs))) (h_pt_ys : σ0 (o + 6) = .inl (cI, 2078, .inl (zA pt_ys))) (h_ra : σ0 10 = oC_ra ad ra_cellCount) (h_ra_cells : σ0 11 = .inl (cZ, 1024, .inl (zA ra_cells))) (hf : f_X5_walk pt_xs pt_ys pt_size ra_cells ra_cellCount = some (R_ra_cells, R_ra_cellCount)) :
    Met l yX5_walk (Cond.code yX5_walk cX5_walk 3 none :: wsL_law) rmX5_walk (zPre D ad N (zT cI cZ cF cL cD) σ0 sz [.ref (ad 10), .ref (ad (o + 4))]) (zQv D ad N sz (fun σ' => σ' 10 = oC_ra ad R_ra_cellCount ∧ σ' 11 = .inl (cZ, 1024, .inl (zA R_ra_cells)) ∧ ∀ i : Nat, i ≠ 10 → i ≠ 11 → σ' i = σ0 i)) 0 0 (zFr ad N sz) := by
  refine zMet hI (plainFor_of_name (by decide)) (Nat.le_of_ble_eq_true rfl) ⟨rfl, rfl⟩ ?_
  intro p e s m args below meth c Q hx hb hr hlocks hml hown hts hK hsz hQ hH hA ls hl
  subst hsz
  have hk_pt : (o + 4) < N := by omega
  have hk_pt_xs : (o + 5) < N := by omega
  have hk_pt_ys : (o + 6) < N := by omega
  have hk_ra : 10 < N := by omega
  have hk_ra_cells : 11 < N := by omega
  have hl : lv_has ls 3 [(0, .ref (ad 10)), (1, .ref (ad (o + 4)))] := hl
  have hbg : ∀ i : Nat, i ≠ 10 → i ≠ 11 → σ0 i = σ0 i := fun _ _ _ => rfl
  have L31 : ∀   (n : Nat) (x2 : Int) (ra_cells : Int → Int) (ra_cellCount : Int) (x2' : Int) (ra_cells' : Int → Int) (ra_cellCount' : Int), zlp (fun z => f_X5_walk_L31 pt_xs pt_ys pt_size z.1 z.2.1 z.2.2) n (x2, ra_cells, ra_cellCount) = some (x2', ra_cells', ra_cellCount') → ∀ (σ : Nat → va_E) (H : Heap) (locs : List Loc) (hH : zH D ad N (zFr ad N s.heap.size) s.heap σ H locs) (h_pt : σ (o + 4) = oC_pt ad o pt_size) (h_pt_xs : σ (o + 5) = .inl (cI, 2078, .inl (zA pt_xs))) (h_pt_ys : σ (o + 6) = .inl (cI, 2078, .inl (zA pt_ys))) (h_ra : σ 10 = oC_ra ad ra_cellCount) (h_ra_cells : σ 11 = .inl (cZ, 1024, .inl (zA ra_cells))) (hbg : ∀ i : Nat, i ≠ 10 → i ≠ 11 → σ i = σ0 i) (ls : Array Slot) (hl : lv_has ls 3 [(0, .ref (ad 10)), (1, .ref (ad (o + 4))), (2, .int (zI x2))]), (∀ (σ : Nat → va_E) (H : Heap) (locs : List Loc) (hH : zH D ad N (zFr ad N s.heap.size) s.heap σ H locs) (h_pt : σ (o + 4) = oC_pt ad o pt_size) (h_pt_xs : σ (o + 5) = .inl (cI, 2078, .inl (zA pt_xs))) (h_pt_ys : σ (o + 6) = .inl (cI, 2078, .inl (zA pt_ys))) (h_ra : σ 10 = oC_ra ad (ra_cellCount')) (h_ra_cells : σ 11 = .inl (cZ, 1024, .inl (zA (ra_cells')))) (hbg : ∀ i : Nat, i ≠ 10 → i ≠ 11 → σ i = σ0 i) (ls : Array Slot) (hl : lv_has ls 3 []), W p l e rmX5_walk s m args below meth c H locs 0 0 Q (F0 m 95 ls [])) → W p l e rmX5_walk s m args below meth c H locs 0 0 Q (F0 m 31 ls []) := by
    intro  n
    induction n with
    | zero => intro x2 ra_cells ra_cellCount x2' ra_cells' ra_cellCount' hz; exact (zlp_0 hz).elim
    | succ n ih =>
      intro x2 ra_cells ra_cellCount x2' ra_cells' ra_cellCount' hz σ H locs hH h_pt h_pt_xs h_pt_ys h_ra h_ra_cells hbg ls hl kx
      obtain ⟨nx, hf, hnx⟩ := zlp_some hz
      have hf : f_X5_walk_L31 pt_xs pt_ys pt_size x2 ra_cells ra_cellCount = some nx := hf
      unfold f_X5_walk_L31 at hf
      refine lv_iload_n hx hb dX5_walk_31 rfl (lv_at hl 2 rfl) ?_
      refine lv_aload_n hx hb dX5_walk_32 rfl (lv_at hl 1 rfl) ?_
      refine zget hx hb inlX4 rfl 2 rfl zk_t3_79 hts hown hK hH hk_pt h_pt rfl dX5_walk_33 ?_
      obtain ⟨k1, hf⟩ := zck_some hf
      refine lz_icmp_ge (tgt := 95) hx hb k1 dX5_walk_36 (by decide) (fun c2 => ?_) (fun c2 => ?_)
      · replace hf := (if_pos c2).symm.trans hf
        cases hf
        cases hnx
        exact kx _ _ _ hH h_pt h_pt_xs h_pt_ys h_ra h_ra_cells hbg _ (lv_sub hl [] rfl)
      · replace hf := (if_neg c2).symm.trans hf
        refine lv_iload_n hx hb dX5_walk_39 rfl (lv_at hl 2 rfl) ?_
        refine lv_aload_n hx hb dX5_walk_40 rfl (lv_at hl 1 rfl) ?_
        refine zget hx hb inlX4 rfl 0 rfl zk_t3_73 hts hown hK hH hk_pt h_pt rfl dX5_walk_41 ?_
        refine zalen (z := 2078) hx hb hK hH hk_pt_xs 0 h_pt_xs rfl (show Int32.ofNat 2078 = zI 2078 by decide +kernel) dX5_walk_44 ?_
        obtain ⟨k3, hf⟩ := zck_some hf
        refine lz_icmp_ge (tgt := 95) hx hb ⟨k3, by decide⟩ dX5_walk_45 (by decide) (fun c4 => ?_) (fun c4 => ?_)
        · replace hf := (if_pos c4).symm.trans hf
          cases hf
          cases hnx
          exact kx _ _ _ hH h_pt h_pt_xs h_pt_ys h_ra h_ra_cells hbg _ (lv_sub hl [] rfl)
        · replace hf := (if_neg c4).symm.trans hf
          refine lv_iload_n hx hb dX5_walk_48 rfl (lv_at hl 2 rfl) ?_
          refine lv_aload_n hx hb dX5_walk_49 rfl (lv_at hl 1 rfl) ?_
          refine zget hx hb inlX4 rfl 1 rfl zk_t3_76 hts hown hK hH hk_pt h_pt rfl dX5_walk_50 ?_
          refine zalen (z := 2078) hx hb hK hH hk_pt_ys 0 h_pt_ys rfl (show Int32.ofNat 2078 = zI 2078 by decide +kernel) dX5_walk_53 ?_
          obtain ⟨k5, hf⟩ := zck_some hf
          refine lz_icmp_ge (tgt := 95) hx hb ⟨k5, by decide⟩ dX5_walk_54 (by decide) (fun c6 => ?_) (fun c6 => ?_)
          · replace hf := (if_pos c6).symm.trans hf
            cases hf
            cases hnx
            exact kx _ _ _ hH h_pt h_pt_xs h_pt_ys h_ra h_ra_cells hbg _ (lv_sub hl [] rfl)
          · replace hf := (if_neg c6).symm.trans hf
            refine lv_aload_n hx hb dX5_walk_57 rfl (lv_at hl 0 rfl) ?_
            refine lv_aload_n hx hb dX5_walk_58 rfl (lv_at hl 1 rfl) ?_
            refine zget hx hb inlX4 rfl 0 rfl zk_t3_73 hts hown hK hH hk_pt h_pt rfl dX5_walk_59 ?_
            refine lv_iload_n hx hb dX5_walk_62 rfl (lv_at hl 2 rfl) ?_
            refine lv_iconst (v := zI 1) hx hb dX5_walk_63 (by decide +kernel) ?_
            refine lz_isub hx hb dX5_walk_64 ?_
            obtain ⟨k7, hf⟩ := zck_some hf
            refine ziald hx hb hK hH hk_pt_xs 0 h_pt_xs rfl k7 rfl dX5_walk_65 ?_
            refine lv_aload_n hx hb dX5_walk_66 rfl (lv_at hl 1 rfl) ?_
            refine zget hx hb inlX4 rfl 1 rfl zk_t3_76 hts hown hK hH hk_pt h_pt rfl dX5_walk_67 ?_
            refine lv_iload_n hx hb dX5_walk_70 rfl (lv_at hl 2 rfl) ?_
            refine lv_iconst (v := zI 1) hx hb dX5_walk_71 (by decide +kernel) ?_
            refine lz_isub hx hb dX5_walk_72 ?_
            obtain ⟨k8, hf⟩ := zck_some hf
            refine ziald hx hb hK hH hk_pt_ys 0 h_pt_ys rfl k8 rfl dX5_walk_73 ?_
            refine lv_aload_n hx hb dX5_walk_74 rfl (lv_at hl 1 rfl) ?_
            refine zget hx hb inlX4 rfl 0 rfl zk_t3_73 hts hown hK hH hk_pt h_pt rfl dX5_walk_75 ?_
            refine lv_iload_n hx hb dX5_walk_78 rfl (lv_at hl 2 rfl) ?_
            obtain ⟨k9, hf⟩ := zck_some hf
            refine ziald hx hb hK hH hk_pt_xs 0 h_pt_xs rfl k9 rfl dX5_walk_79 ?_
            refine lv_aload_n hx hb dX5_walk_80 rfl (lv_at hl 1 rfl) ?_
            refine zget hx hb inlX4 rfl 1 rfl zk_t3_76 hts hown hK hH hk_pt h_pt rfl dX5_walk_81 ?_
            refine lv_iload_n hx hb dX5_walk_84 rfl (lv_at hl 2 rfl) ?_
            obtain ⟨k10, hf⟩ := zck_some hf
            refine ziald hx hb hK hH hk_pt_ys 0 h_pt_ys rfl k10 rfl dX5_walk_85 ?_
            obtain ⟨a11, u12, k13, hf⟩ := zb2_some hf
            refine zcVv (C := RX5) (As := [.int (zI (pt_xs (x2 - 1))), .int (zI (pt_ys (x2 - 1))), .int (zI (pt_xs x2)), .int (zI (pt_ys x2))]) (rest := []) hx hb hml hown hts hl.1 hK hH hA (c_X5_walkTo hI hN  h_ra h_ra_cells k13) zk_t2_192 zk_t2_194 zk_s1_13 zk_t1_3 zk_t2_195 hd_X5_walkTo rfl ⟨rfl, rfl, Nat.le_of_ble_eq_true rfl, Nat.le_of_ble_eq_true rfl⟩ ⟨Nat.zero_le _, Nat.zero_le _⟩ hk_ra h_ra rfl rfl rfl (Nat.le_of_ble_eq_true rfl) dX5_walk_86 (fun σ14 Hσ14 lσ14 hp hH => ?_)
            obtain ⟨h_ra, h_ra_cells, hn⟩ := hp
            have h_pt := (hn (o + 4) (by omega) (by omega)).trans h_pt
            have h_pt_xs := (hn (o + 5) (by omega) (by omega)).trans h_pt_xs
            have h_pt_ys := (hn (o + 6) (by omega) (by omega)).trans h_pt_ys
            have hbg : ∀ i : Nat, i ≠ 10 → i ≠ 11 → σ14 i = σ0 i := fun i a0 a1 => (hn i a0 a1).trans (hbg i a0 a1)
            refine lz_iinc (lv' := [(2, .int (zI (x2 + 1))), (0, .ref (ad 10)), (1, .ref (ad (o + 4)))]) hx hb dX5_walk_89 hl (j := 2) rfl (by decide) rfl (fun ls hl => ?_)
            refine lv_goto (tgt := 31) hx hb dX5_walk_92 (by decide) ?_
            cases hf
            exact ih (x2 + 1) a11 u12 _ _ _ hnx _ _ _ hH h_pt h_pt_xs h_pt_ys h_ra h_ra_cells hbg _ (lv_sub hl [1, 2, 0] rfl) kx
  have L7 : ∀ (ra_cellCount : Int)  (n : Nat) (x2 : Int) (ra_cells : Int → Int) (x2' : Int) (ra_cells' : Int → Int), zlp (fun z => f_X5_walk_L7 pt_xs pt_ys pt_size ra_cellCount z.1 z.2) n (x2, ra_cells) = some (x2', ra_cells') → ∀ (σ : Nat → va_E) (H : Heap) (locs : List Loc) (hH : zH D ad N (zFr ad N s.heap.size) s.heap σ H locs) (h_pt : σ (o + 4) = oC_pt ad o pt_size) (h_pt_xs : σ (o + 5) = .inl (cI, 2078, .inl (zA pt_xs))) (h_pt_ys : σ (o + 6) = .inl (cI, 2078, .inl (zA pt_ys))) (h_ra : σ 10 = oC_ra ad ra_cellCount) (h_ra_cells : σ 11 = .inl (cZ, 1024, .inl (zA ra_cells))) (hbg : ∀ i : Nat, i ≠ 10 → i ≠ 11 → σ i = σ0 i) (ls : Array Slot) (hl : lv_has ls 3 [(0, .ref (ad 10)), (1, .ref (ad (o + 4))), (2, .int (zI x2))]), (∀ (σ : Nat → va_E) (H : Heap) (locs : List Loc) (hH : zH D ad N (zFr ad N s.heap.size) s.heap σ H locs) (h_pt : σ (o + 4) = oC_pt ad o pt_size) (h_pt_xs : σ (o + 5) = .inl (cI, 2078, .inl (zA pt_xs))) (h_pt_ys : σ (o + 6) = .inl (cI, 2078, .inl (zA pt_ys))) (h_ra : σ 10 = oC_ra ad ra_cellCount) (h_ra_cells : σ 11 = .inl (cZ, 1024, .inl (zA (ra_cells')))) (hbg : ∀ i : Nat, i ≠ 10 → i ≠ 11 → σ i = σ0 i) (ls : Array Slot) (hl : lv_has ls 3 [(0, .ref (ad 10)), (1, .ref (ad (o + 4)))]), W p l e rmX5_walk s m args below meth c H locs 0 0 Q (F0 m 29 ls [])) → W p l e rmX5_walk s m args below meth c H locs 0 0 Q (F0 m 7 ls []) := by
    intro ra_cellCount n
    induction n with
    | zero => intro x2 ra_cells x2' ra_cells' hz; exact (zlp_0 hz).elim
    | succ n ih =>
      intro x2 ra_cells x2' ra_cells' hz σ H locs hH h_pt h_pt_xs h_pt_ys h_ra h_ra_cells hbg ls hl kx
      obtain ⟨nx, hf, hnx⟩ := zlp_some hz
      have hf : f_X5_walk_L7 pt_xs pt_ys pt_size ra_cellCount x2 ra_cells = some nx := hf
      unfold f_X5_walk_L7 at hf
      refine lv_iload_n hx hb dX5_walk_7 rfl (lv_at hl 2 rfl) ?_
      refine lv_aload_n hx hb dX5_walk_8 rfl (lv_at hl 0 rfl) ?_
      refine zget hx hb inlX5 rfl 0 rfl zk_t1_80 hts hown hK hH hk_ra h_ra rfl dX5_walk_9 ?_
      refine zalen (z := 1024) hx hb hK hH hk_ra_cells 1 h_ra_cells rfl (show Int32.ofNat 1024 = zI 1024 by decide +kernel) dX5_walk_12 ?_
      obtain ⟨k15, hf⟩ := zck_some hf
      refine lz_icmp_ge (tgt := 29) hx hb ⟨k15, by decide⟩ dX5_walk_13 (by decide) (fun c16 => ?_) (fun c16 => ?_)
      · replace hf := (if_pos c16).symm.trans hf
        cases hf
        cases hnx
        exact kx _ _ _ hH h_pt h_pt_xs h_pt_ys h_ra h_ra_cells hbg _ (lv_sub hl [0, 1] rfl)
      · replace hf := (if_neg c16).symm.trans hf
        refine lv_aload_n hx hb dX5_walk_16 rfl (lv_at hl 0 rfl) ?_
        refine zget hx hb inlX5 rfl 0 rfl zk_t1_80 hts hown hK hH hk_ra h_ra rfl dX5_walk_17 ?_
        refine lv_iload_n hx hb dX5_walk_20 rfl (lv_at hl 2 rfl) ?_
        refine lv_iconst (v := zI 0) hx hb dX5_walk_21 (by decide +kernel) ?_
        obtain ⟨k17, hf⟩ := zck_some hf
        obtain ⟨a19, ea19, hf⟩ := zlt_some hf
        refine zzast hx hb hK hH hk_ra_cells 1 h_ra_cells rfl k17 (Or.inl rfl) rfl dX5_walk_22 (fun σ18 Hσ18 lσ18 h_ra_cells hn hH => ?_)
        rw [← ea19] at h_ra_cells
        have h_pt := (hn (o + 4) (by omega)).trans h_pt
        have h_pt_xs := (hn (o + 5) (by omega)).trans h_pt_xs
        have h_pt_ys := (hn (o + 6) (by omega)).trans h_pt_ys
        have h_ra := (hn 10 (by decide)).trans h_ra
        have hbg : ∀ i : Nat, i ≠ 10 → i ≠ 11 → σ18 i = σ0 i := fun i a0 a1 => (hn i a1).trans (hbg i a0 a1)
        refine lz_iinc (lv' := [(2, .int (zI (x2 + 1))), (0, .ref (ad 10)), (1, .ref (ad (o + 4)))]) hx hb dX5_walk_23 hl (j := 2) rfl (by decide) rfl (fun ls hl => ?_)
        refine lv_goto (tgt := 7) hx hb dX5_walk_26 (by decide) ?_
        cases hf
        exact ih (x2 + 1) a19 _ _ hnx _ _ _ hH h_pt h_pt_xs h_pt_ys h_ra h_ra_cells hbg _ (lv_sub hl [1, 2, 0] rfl) kx
  unfold f_X5_walk at hf
  refine lv_aload_n hx hb dX5_walk_0 rfl (lv_at hl 0 rfl) ?_
  refine lv_iconst (v := zI 0) hx hb dX5_walk_1 (by decide +kernel) ?_
  refine zput hx hb inlX5 tyX5 tyX5_ok nmX5 rfl 1 rfl zk_t1_81 rfl hts hown hK hH hk_ra h_ra rfl rfl rfl dX5_walk_2 (fun σ20 Hσ20 lσ20 h_ra hn hH => ?_)
  have h_ra : σ20 10 = oC_ra ad 0 := h_ra
  have h_pt := (hn (o + 4) (by omega)).trans h_pt
  have h_pt_xs := (hn (o + 5) (by omega)).trans h_pt_xs
  have h_pt_ys := (hn (o + 6) (by omega)).trans h_pt_ys
  have h_ra_cells := (hn 11 (by decide)).trans h_ra_cells
  have hbg : ∀ i : Nat, i ≠ 10 → i ≠ 11 → σ20 i = σ0 i := fun i a0 a1 => (hn i a0).trans (hbg i a0 a1)
  refine lv_iconst (v := zI 0) hx hb dX5_walk_5 (by decide +kernel) ?_
  refine lv_istore_n (lv' := [(2, .int (zI 0)), (0, .ref (ad 10)), (1, .ref (ad (o + 4)))]) hx hb dX5_walk_6 rfl hl (by decide) rfl (fun ls hl => ?_)
  obtain ⟨w22, w23, k21, hf⟩ := zb2_some hf
  refine L7 0 zFU 0 ra_cells w22 w23 k21 _ _ _ hH h_pt h_pt_xs h_pt_ys h_ra h_ra_cells hbg _ (lv_sub hl [1, 2, 0] rfl) (fun σ24 Hσ24 lσ24 hH h_pt h_pt_xs h_pt_ys h_ra h_ra_cells hbg ls hl => ?_)
  refine lv_iconst (v := zI 1) hx hb dX5_walk_29 (by decide +kernel) ?_
  refine lv_istore_n (lv' := [(2, .int (zI 1)), (0, .ref (ad 10)), (1, .ref (ad (o + 4)))]) hx hb dX5_walk_30 rfl hl (by decide) rfl (fun ls hl => ?_)
  obtain ⟨w26, w27, w28, k25, hf⟩ := zb3_some hf
  refine L31 zFU 1 w23 0 w26 w27 w28 k25 _ _ _ hH h_pt h_pt_xs h_pt_ys h_ra h_ra_cells hbg _ (lv_sub hl [1, 2, 0] rfl) (fun σ29 Hσ29 lσ29 hH h_pt h_pt_xs h_pt_ys h_ra h_ra_cells hbg ls hl => ?_)
  cases hf
  exact zretv hx hb hr hlocks hQ hH ⟨h_ra, h_ra_cells, hbg⟩ dX5_walk_95
abbrev rmX5_isNear : Room := { frames := 1, cells := 0, slots := 0, locals := 21 }
theorem hd_X5_isNear : yX5_isNear.cls = RX5 ∧ yX5_isNear.cls ≠ "java/lang/invoke/MethodHandle" ∧ yX5_isNear.cls ≠ "java/lang/invoke/VarHandle" ∧ (parseMethodDescriptor yX5_isNear.desc).map (fun d => d.parameters.length) = some 3 := by decide +kernel
set_option maxHeartbeats 4000000 in
set_option maxRecDepth 100000 in
theorem c_X5_isNear {l : Launch} {D : va_G} {cI cZ cF cL cD : ClassId} {ad : Nat → Nat} {N : Nat} (hI : ∀ i j, i < N → j < N → ad i = ad j → i = j) (hN : 19 ≤ N) {σ0 : Nat → va_E} {sz : Nat} {ra_cells : Int → Int} {ra_cellCount : Int} {p1 : Int} {p2 : Int} {p3 : Int} {R0 : Int} (h_ra : σ0 10 = oC_ra ad ra_cellCount) (h_ra_cells : σ0 11 = .inl (cZ, 1024, .inl (zA ra_cells))) (hf : f_X5_isNear ra_cells p1 p2 p3 = some R0) :
    Met l yX5_isNear (Cond.code yX5_isNear cX5_isNear 8 (some .boolean) :: wsL_law) rmX5_isNear (zPre D ad N (zT cI cZ cF cL cD) σ0 sz [.ref (ad 10), .int (zI p1), .int (zI p2), .int (zI p3)]) (zQi D ad N sz (fun r σ' => r = zI R0 ∧ σ' = σ0)) 0 0 (zFr ad N sz) := by
  refine zMet hI (plainFor_of_name (by decide)) (Nat.le_of_ble_eq_true rfl) ⟨rfl, rfl⟩ ?_
  intro p e s m args below meth c Q hx hb hr hlocks hml hown hts hK hsz hQ hH hA ls hl
  subst hsz
  have hk_ra : 10 < N := by omega
  have hk_ra_cells : 11 < N := by omega
  have hl : lv_has ls 8 [(0, .ref (ad 10)), (1, .int (zI p1)), (2, .int (zI p2)), (3, .int (zI p3))] := hl
  have hbg : σ0 = σ0 := rfl
  have L27 : ∀ (x1 : Int) (x5 : Int)  (n : Nat) (x6 : Int) (res : ((Int) ⊕ (Int))), zlp (fun z => f_X5_isNear_L27 ra_cells x1 x5 z) n x6 = some res → ∀ (σ : Nat → va_E) (H : Heap) (locs : List Loc) (hH : zH D ad N (zFr ad N s.heap.size) s.heap σ H locs) (h_ra : σ 10 = oC_ra ad ra_cellCount) (h_ra_cells : σ 11 = .inl (cZ, 1024, .inl (zA ra_cells))) (hbg : σ = σ0) (ls : Array Slot) (hl : lv_has ls 8 [(0, .ref (ad 10)), (1, .int (zI x1)), (5, .int (zI x5)), (6, .int (zI x6))]), (∀ (x6' : Int), res = .inl x6' → ∀ (σ : Nat → va_E) (H : Heap) (locs : List Loc) (hH : zH D ad N (zFr ad N s.heap.size) s.heap σ H locs) (h_ra : σ 10 = oC_ra ad ra_cellCount) (h_ra_cells : σ 11 = .inl (cZ, 1024, .inl (zA ra_cells))) (hbg : σ = σ0) (ls : Array Slot) (hl : lv_has ls 8 []), W p l e rmX5_isNear s m args below meth c H locs 0 0 Q (F0 m 76 ls [])) → (∀ b, res = .inr b → some b = some R0) → W p l e rmX5_isNear s m args below meth c H locs 0 0 Q (F0 m 27 ls []) := by
    intro x1 x5 n
    induction n with
    | zero => intro x6 res hz; exact (zlp_0 hz).elim
    | succ n ih =>
      intro x6 res hz σ H locs hH h_ra h_ra_cells hbg ls hl kx kr
      obtain ⟨nx, hf, hnx⟩ := zlp_some hz
      have hf : f_X5_isNear_L27 ra_cells x1 x5 x6 = some nx := hf
      unfold f_X5_isNear_L27 at hf
      refine lv_iload hx hb dX5_isNear_27 (lv_at hl 3 rfl) ?_
      refine lv_iload hx hb dX5_isNear_29 (lv_at hl 2 rfl) ?_
      obtain ⟨k1, hf⟩ := zck_some hf
      refine lz_icmp_gt (tgt := 76) hx hb k1 dX5_isNear_31 (by decide) (fun c2 => ?_) (fun c2 => ?_)
      · replace hf := (if_pos c2).symm.trans hf
        cases hf
        exact kx x6 hnx.symm _ _ _ hH h_ra h_ra_cells hbg _ (lv_sub hl [] rfl)
      · replace hf := (if_neg c2).symm.trans hf
        refine lv_iload hx hb dX5_isNear_34 (lv_at hl 3 rfl) ?_
        refine lv_bipush (v := zI 32) hx hb dX5_isNear_36 (by decide +kernel) ?_
        refine lz_imul hx hb dX5_isNear_38 ?_
        refine lv_iload_n hx hb dX5_isNear_39 rfl (lv_at hl 1 rfl) ?_
        refine lz_iadd hx hb dX5_isNear_40 ?_
        obtain ⟨v3, ev3, hf⟩ := zlt_some hf
        refine lz_nm ev3 ?_
        refine lv_istore (lv' := [(7, .int (zI v3)), (0, .ref (ad 10)), (1, .int (zI x1)), (5, .int (zI x5)), (6, .int (zI x6))]) hx hb dX5_isNear_41 hl (by decide) rfl (fun ls hl => ?_)
        refine lv_iload hx hb dX5_isNear_43 (lv_at hl 0 rfl) ?_
        obtain ⟨k4, hf⟩ := zck_some hf
        refine lz_if_lt (tgt := 70) hx hb k4 dX5_isNear_45 (by decide) (fun c5 => ?_) (fun c5 => ?_)
        · replace hf := (if_pos c5).symm.trans hf
          refine lz_iinc (lv' := [(6, .int (zI (x6 + 1))), (7, .int (zI v3)), (0, .ref (ad 10)), (1, .int (zI x1)), (5, .int (zI x5))]) hx hb dX5_isNear_70 hl (j := 4) rfl (by decide) rfl (fun ls hl => ?_)
          refine lv_goto (tgt := 27) hx hb dX5_isNear_73 (by decide) ?_
          cases hf
          exact ih (x6 + 1) _ hnx _ _ _ hH h_ra h_ra_cells hbg _ (lv_sub hl [2, 3, 4, 0] rfl) kx kr
        · replace hf := (if_neg c5).symm.trans hf
          refine lv_iload hx hb dX5_isNear_48 (lv_at hl 0 rfl) ?_
          refine lv_aload_n hx hb dX5_isNear_50 rfl (lv_at hl 1 rfl) ?_
          refine zget hx hb inlX5 rfl 0 rfl zk_t1_80 hts hown hK hH hk_ra h_ra rfl dX5_isNear_51 ?_
          refine zalen (z := 1024) hx hb hK hH hk_ra_cells 1 h_ra_cells rfl (show Int32.ofNat 1024 = zI 1024 by decide +kernel) dX5_isNear_54 ?_
          obtain ⟨k6, hf⟩ := zck_some hf
          refine lz_icmp_ge (tgt := 70) hx hb ⟨k6, by decide⟩ dX5_isNear_55 (by decide) (fun c7 => ?_) (fun c7 => ?_)
          · replace hf := (if_pos c7).symm.trans hf
            refine lz_iinc (lv' := [(6, .int (zI (x6 + 1))), (7, .int (zI v3)), (0, .ref (ad 10)), (1, .int (zI x1)), (5, .int (zI x5))]) hx hb dX5_isNear_70 hl (j := 4) rfl (by decide) rfl (fun ls hl => ?_)
            refine lv_goto (tgt := 27) hx hb dX5_isNear_73 (by decide) ?_
            cases hf
            exact ih (x6 + 1) _ hnx _ _ _ hH h_ra h_ra_cells hbg _ (lv_sub hl [2, 3, 4, 0] rfl) kx kr
          · replace hf := (if_neg c7).symm.trans hf
            refine lv_aload_n hx hb dX5_isNear_58 rfl (lv_at hl 1 rfl) ?_
            refine zget hx hb inlX5 rfl 0 rfl zk_t1_80 hts hown hK hH hk_ra h_ra rfl dX5_isNear_59 ?_
            refine lv_iload hx hb dX5_isNear_62 (lv_at hl 0 rfl) ?_
            obtain ⟨k8, hf⟩ := zck_some hf
            refine zzald hx hb hK hH hk_ra_cells 1 h_ra_cells rfl k8 rfl dX5_isNear_64 ?_
            obtain ⟨k9, hf⟩ := zck_some hf
            refine lz_if_eq (tgt := 70) hx hb k9 dX5_isNear_65 (by decide) (fun c10 => ?_) (fun c10 => ?_)
            · replace hf := (if_pos c10).symm.trans hf
              refine lz_iinc (lv' := [(6, .int (zI (x6 + 1))), (7, .int (zI v3)), (0, .ref (ad 10)), (1, .int (zI x1)), (5, .int (zI x5))]) hx hb dX5_isNear_70 hl (j := 4) rfl (by decide) rfl (fun ls hl => ?_)
              refine lv_goto (tgt := 27) hx hb dX5_isNear_73 (by decide) ?_
              cases hf
              exact ih (x6 + 1) _ hnx _ _ _ hH h_ra h_ra_cells hbg _ (lv_sub hl [2, 3, 4, 0] rfl) kx kr
            · replace hf := (if_neg c10).symm.trans hf
              refine lv_iconst (v := zI 1) hx hb dX5_isNear_68 (by decide +kernel) ?_
              cases hf
              replace hf := kr _ hnx.symm
              cases hf
              exact zretz hx hb hr hlocks hQ hH ⟨rfl, hbg⟩ (z_nar _ (Or.inr rfl)) dX5_isNear_69
  unfold f_X5_isNear at hf
  refine lv_iconst (v := zI 0) hx hb dX5_isNear_0 (by decide +kernel) ?_
  refine lv_iload_n hx hb dX5_isNear_1 rfl (lv_at hl 2 rfl) ?_
  refine lv_iload_n hx hb dX5_isNear_2 rfl (lv_at hl 3 rfl) ?_
  refine lz_isub hx hb dX5_isNear_3 ?_
  refine lv_iconst (v := zI 1) hx hb dX5_isNear_4 (by decide +kernel) ?_
  refine lz_iadd hx hb dX5_isNear_5 ?_
  obtain ⟨k11, hf⟩ := zck_some hf
  refine lz_mmax hx hb (hml.trans hl.1.symm) hown hts zk_t3_206 zk_t1_213 zk_t1_6 zk_t1_214 ⟨Nat.le_of_ble_eq_true rfl, Nat.le_of_ble_eq_true rfl⟩ ⟨Nat.zero_le _, Nat.zero_le _⟩ ⟨by decide, k11⟩ dX5_isNear_6 ?_
  obtain ⟨v12, ev12, hf⟩ := zlt_some hf
  refine lz_nm ev12 ?_
  refine lv_istore (lv' := [(4, .int (zI v12)), (0, .ref (ad 10)), (1, .int (zI p1)), (2, .int (zI p2)), (3, .int (zI p3))]) hx hb dX5_isNear_9 hl (by decide) rfl (fun ls hl => ?_)
  refine lv_bipush (v := zI 31) hx hb dX5_isNear_11 (by decide +kernel) ?_
  refine lv_iload_n hx hb dX5_isNear_13 rfl (lv_at hl 3 rfl) ?_
  refine lv_iload_n hx hb dX5_isNear_14 rfl (lv_at hl 4 rfl) ?_
  refine lz_iadd hx hb dX5_isNear_15 ?_
  refine lv_iconst (v := zI 1) hx hb dX5_isNear_16 (by decide +kernel) ?_
  refine lz_isub hx hb dX5_isNear_17 ?_
  obtain ⟨k13, hf⟩ := zck_some hf
  refine lz_mmin hx hb (hml.trans hl.1.symm) hown hts zk_t3_195 zk_t2_10 zk_t1_6 zk_t2_11 ⟨Nat.le_of_ble_eq_true rfl, Nat.le_of_ble_eq_true rfl⟩ ⟨Nat.zero_le _, Nat.zero_le _⟩ ⟨by decide, k13⟩ dX5_isNear_18 ?_
  obtain ⟨v14, ev14, hf⟩ := zlt_some hf
  refine lz_nm ev14 ?_
  refine lv_istore (lv' := [(5, .int (zI v14)), (4, .int (zI v12)), (0, .ref (ad 10)), (1, .int (zI p1)), (2, .int (zI p2)), (3, .int (zI p3))]) hx hb dX5_isNear_21 hl (by decide) rfl (fun ls hl => ?_)
  refine lv_iload hx hb dX5_isNear_23 (lv_at hl 1 rfl) ?_
  refine lv_istore (lv' := [(6, .int (zI v12)), (5, .int (zI v14)), (4, .int (zI v12)), (0, .ref (ad 10)), (1, .int (zI p1)), (2, .int (zI p2)), (3, .int (zI p3))]) hx hb dX5_isNear_25 hl (by decide) rfl (fun ls hl => ?_)
  obtain ⟨x18, k15, hf⟩ := zbs_some hf
  refine L27 p1 v14 zFU v12 x18 k15 _ _ _ hH h_ra h_ra_cells hbg _ (lv_sub hl [3, 4, 1, 0] rfl) (fun w16 hres σ17 Hσ17 lσ17 hH h_ra h_ra_cells hbg ls hl => ?_) (fun b hres => ?_)
  rotate_left
  · rw [hres] at hf; exact hf
  rw [hres] at hf
  replace hf := show _ = _ from hf
  simp only [zsel] at hf
  refine lv_iconst (v := zI 0) hx hb dX5_isNear_76 (by decide +kernel) ?_
  cases hf
  exact zretz hx hb hr hlocks hQ hH ⟨rfl, hbg⟩ (z_nar _ (Or.inl rfl)) dX5_isNear_77
abbrev rmX5_partCovered : Room := { frames := 2, cells := 0, slots := 0, locals := 48 }
theorem hd_X5_partCovered : yX5_partCovered.cls = RX5 ∧ yX5_partCovered.cls ≠ "java/lang/invoke/MethodHandle" ∧ yX5_partCovered.cls ≠ "java/lang/invoke/VarHandle" ∧ (parseMethodDescriptor yX5_partCovered.desc).map (fun d => d.parameters.length) = some 1 := by decide +kernel
set_option maxHeartbeats 4000000 in
set_option maxRecDepth 100000 in
theorem c_X5_partCovered {l : Launch} {D : va_G} {cI cZ cF cL cD : ClassId} {ad : Nat → Nat} {N : Nat} (hI : ∀ i j, i < N → j < N → ad i = ad j → i = j) (hN : 19 ≤ N) {o : Nat} (ho : 19 ≤ o ∧ o + 7 ≤ N) {σ0 : Nat → va_E} {sz : Nat} {fd_colour : Int} {fd_layer : Int} {fd_column : Int} {fd_cornerXs : Int → Int} {fd_cornerYs : Int → Int} {fd_crossings : Int → Int} {fd_cornerCount : Int} {fd_crossingCount : Int} {fd_density : Int} {fd_length : Int} {fd_shift : Int} {fd_pull : Int} {fd_underlay : Int} {fd_drawn : Int} {ra_cells : Int → Int} {ra_cellCount : Int} {R0 : UInt32} {R_fd_crossings : Int → Int} {R_fd_crossingCount : Int} (h_fd : σ0 o = oC_fd ad o fd_colour fd_layer fd_column fd_cornerCount fd_crossingCount fd_density fd_length fd_shift fd_pull fd_underlay fd_drawn) (h_fd_cornerXs : σ0 (o + 1) = .inl (cI, 8, .inl (zA fd_cornerXs))) (h_fd_cornerYs : σ0 (o + 2) = .inl (cI, 8, .inl (zA fd_cornerYs))) (h_fd_crossings : σ0 (o + 3) = .inl (cI, 8, .inl (zA fd_crossings))) (h_ra : σ0 10 = oC_ra ad ra_cellCount) (h_ra_cells : σ0 11 = .inl (cZ, 1024, .inl (zA ra_cells))) (hf : f_X5_partCovered fd_cornerXs fd_cornerYs fd_crossings fd_cornerCount fd_crossingCount fd_density ra_cells = some (R0, R_fd_crossings, R_fd_crossingCount)) :
    Met l yX5_partCovered (Cond.code yX5_partCovered cX5_partCovered 7 (some .float) :: wsL_law) rmX5_partCovered (zPre D ad N (zT cI cZ cF cL cD) σ0 sz [.ref (ad 10), .ref (ad o)]) (zQf D ad N sz (fun r σ' => r = R0 ∧ σ' o = oC_fd ad o fd_colour fd_layer fd_column fd_cornerCount R_fd_crossingCount fd_density fd_length fd_shift fd_pull fd_underlay fd_drawn ∧ σ' (o + 3) = .inl (cI, 8, .inl (zA R_fd_crossings)) ∧ ∀ i : Nat, i ≠ o → i ≠ (o + 3) → σ' i = σ0 i)) 0 0 (zFr ad N sz) := by
  refine zMet hI (plainFor_of_name (by decide)) (Nat.le_of_ble_eq_true rfl) ⟨rfl, rfl⟩ ?_
  intro p e s m args below meth c Q hx hb hr hlocks hml hown hts hK hsz hQ hH hA ls hl
  subst hsz
  have hk_fd : o < N := by omega
  have hk_fd_cornerXs : (o + 1) < N := by omega
  have hk_fd_cornerYs : (o + 2) < N := by omega
  have hk_fd_crossings : (o + 3) < N := by omega
  have hk_ra : 10 < N := by omega
  have hk_ra_cells : 11 < N := by omega
  have hl : lv_has ls 7 [(0, .ref (ad 10)), (1, .ref (ad o))] := hl
  have hbg : ∀ i : Nat, i ≠ o → i ≠ (o + 3) → σ0 i = σ0 i := fun _ _ _ => rfl
  have L21 : ∀ (x4 : Int)  (n : Nat) (x2 : Int) (x3 : Int) (x5 : Int) (fd_crossings : Int → Int) (fd_crossingCount : Int) (x2' : Int) (x3' : Int) (x5' : Int) (fd_crossings' : Int → Int) (fd_crossingCount' : Int), zlp (fun z => f_X5_partCovered_L21 fd_cornerXs fd_cornerYs fd_cornerCount fd_density ra_cells x4 z.1 z.2.1 z.2.2.1 z.2.2.2.1 z.2.2.2.2) n (x2, x3, x5, fd_crossings, fd_crossingCount) = some (x2', x3', x5', fd_crossings', fd_crossingCount') → ∀ (σ : Nat → va_E) (H : Heap) (locs : List Loc) (hH : zH D ad N (zFr ad N s.heap.size) s.heap σ H locs) (h_fd : σ o = oC_fd ad o fd_colour fd_layer fd_column fd_cornerCount fd_crossingCount fd_density fd_length fd_shift fd_pull fd_underlay fd_drawn) (h_fd_cornerXs : σ (o + 1) = .inl (cI, 8, .inl (zA fd_cornerXs))) (h_fd_cornerYs : σ (o + 2) = .inl (cI, 8, .inl (zA fd_cornerYs))) (h_fd_crossings : σ (o + 3) = .inl (cI, 8, .inl (zA fd_crossings))) (h_ra : σ 10 = oC_ra ad ra_cellCount) (h_ra_cells : σ 11 = .inl (cZ, 1024, .inl (zA ra_cells))) (hbg : ∀ i : Nat, i ≠ o → i ≠ (o + 3) → σ i = σ0 i) (ls : Array Slot) (hl : lv_has ls 7 [(0, .ref (ad 10)), (1, .ref (ad o)), (2, .int (zI x2)), (3, .int (zI x3)), (4, .int (zI x4)), (5, .int (zI x5))]), (∀ (σ : Nat → va_E) (H : Heap) (locs : List Loc) (hH : zH D ad N (zFr ad N s.heap.size) s.heap σ H locs) (h_fd : σ o = oC_fd ad o fd_colour fd_layer fd_column fd_cornerCount (fd_crossingCount') fd_density fd_length fd_shift fd_pull fd_underlay fd_drawn) (h_fd_cornerXs : σ (o + 1) = .inl (cI, 8, .inl (zA fd_cornerXs))) (h_fd_cornerYs : σ (o + 2) = .inl (cI, 8, .inl (zA fd_cornerYs))) (h_fd_crossings : σ (o + 3) = .inl (cI, 8, .inl (zA (fd_crossings')))) (h_ra : σ 10 = oC_ra ad ra_cellCount) (h_ra_cells : σ 11 = .inl (cZ, 1024, .inl (zA ra_cells))) (hbg : ∀ i : Nat, i ≠ o → i ≠ (o + 3) → σ i = σ0 i) (ls : Array Slot) (hl : lv_has ls 7 [(2, .int (zI (x2'))), (3, .int (zI (x3')))]), W p l e rmX5_partCovered s m args below meth c H locs 0 0 Q (F0 m 91 ls [])) → W p l e rmX5_partCovered s m args below meth c H locs 0 0 Q (F0 m 21 ls []) := by
    intro x4 n
    induction n with
    | zero => intro x2 x3 x5 fd_crossings fd_crossingCount x2' x3' x5' fd_crossings' fd_crossingCount' hz; exact (zlp_0 hz).elim
    | succ n ih =>
      intro x2 x3 x5 fd_crossings fd_crossingCount x2' x3' x5' fd_crossings' fd_crossingCount' hz σ H locs hH h_fd h_fd_cornerXs h_fd_cornerYs h_fd_crossings h_ra h_ra_cells hbg ls hl kx
      obtain ⟨nx, hf, hnx⟩ := zlp_some hz
      have hf : f_X5_partCovered_L21 fd_cornerXs fd_cornerYs fd_cornerCount fd_density ra_cells x4 x2 x3 x5 fd_crossings fd_crossingCount = some nx := hf
      have L37 : ∀ (fd_crossings : Int → Int) (fd_crossingCount : Int) (x4 : Int) (x5 : Int)  (n : Nat) (x2 : Int) (x3 : Int) (x6 : Int) (x2' : Int) (x3' : Int) (x6' : Int), zlp (fun z => f_X5_partCovered_L37 fd_cornerXs fd_cornerYs fd_crossings fd_cornerCount fd_crossingCount fd_density ra_cells x4 x5 z.1 z.2.1 z.2.2) n (x2, x3, x6) = some (x2', x3', x6') → ∀ (σ : Nat → va_E) (H : Heap) (locs : List Loc) (hH : zH D ad N (zFr ad N s.heap.size) s.heap σ H locs) (h_fd : σ o = oC_fd ad o fd_colour fd_layer fd_column fd_cornerCount fd_crossingCount fd_density fd_length fd_shift fd_pull fd_underlay fd_drawn) (h_fd_cornerXs : σ (o + 1) = .inl (cI, 8, .inl (zA fd_cornerXs))) (h_fd_cornerYs : σ (o + 2) = .inl (cI, 8, .inl (zA fd_cornerYs))) (h_fd_crossings : σ (o + 3) = .inl (cI, 8, .inl (zA fd_crossings))) (h_ra : σ 10 = oC_ra ad ra_cellCount) (h_ra_cells : σ 11 = .inl (cZ, 1024, .inl (zA ra_cells))) (hbg : ∀ i : Nat, i ≠ o → i ≠ (o + 3) → σ i = σ0 i) (ls : Array Slot) (hl : lv_has ls 7 [(0, .ref (ad 10)), (1, .ref (ad o)), (2, .int (zI x2)), (3, .int (zI x3)), (4, .int (zI x4)), (5, .int (zI x5)), (6, .int (zI x6))]), (∀ (σ : Nat → va_E) (H : Heap) (locs : List Loc) (hH : zH D ad N (zFr ad N s.heap.size) s.heap σ H locs) (h_fd : σ o = oC_fd ad o fd_colour fd_layer fd_column fd_cornerCount fd_crossingCount fd_density fd_length fd_shift fd_pull fd_underlay fd_drawn) (h_fd_cornerXs : σ (o + 1) = .inl (cI, 8, .inl (zA fd_cornerXs))) (h_fd_cornerYs : σ (o + 2) = .inl (cI, 8, .inl (zA fd_cornerYs))) (h_fd_crossings : σ (o + 3) = .inl (cI, 8, .inl (zA fd_crossings))) (h_ra : σ 10 = oC_ra ad ra_cellCount) (h_ra_cells : σ 11 = .inl (cZ, 1024, .inl (zA ra_cells))) (hbg : ∀ i : Nat, i ≠ o → i ≠ (o + 3) → σ i = σ0 i) (ls : Array Slot) (hl : lv_has ls 7 [(0, .ref (ad 10)), (1, .ref (ad o)), (2, .int (zI (x2'))), (3, .int (zI (x3'))), (4, .int (zI x4)), (5, .int (zI x5))]), W p l e rmX5_partCovered s m args below meth c H locs 0 0 Q (F0 m 85 ls [])) → W p l e rmX5_partCovered s m args below meth c H locs 0 0 Q (F0 m 37 ls []) := by
        intro fd_crossings fd_crossingCount x4 x5 n
        induction n with
        | zero => intro x2 x3 x6 x2' x3' x6' hz; exact (zlp_0 hz).elim
        | succ n ih =>
          intro x2 x3 x6 x2' x3' x6' hz σ H locs hH h_fd h_fd_cornerXs h_fd_cornerYs h_fd_crossings h_ra h_ra_cells hbg ls hl kx
          obtain ⟨nx, hf, hnx⟩ := zlp_some hz
          have hf : f_X5_partCovered_L37 fd_cornerXs fd_cornerYs fd_crossings fd_cornerCount fd_crossingCount fd_density ra_cells x4 x5 x2 x3 x6 = some nx := hf
          unfold f_X5_partCovered_L37 at hf
          refine lv_iload hx hb dX5_partCovered_37 (lv_at hl 6 rfl) ?_
          refine lv_bipush (v := zI 32) hx hb dX5_partCovered_39 (by decide +kernel) ?_
          obtain ⟨k1, hf⟩ := zck_some hf
          refine lz_icmp_ge (tgt := 85) hx hb ⟨k1, by decide⟩ dX5_partCovered_41 (by decide) (fun c2 => ?_) (fun c2 => ?_)
          · replace hf := (if_pos c2).symm.trans hf
            cases hf
            cases hnx
            exact kx _ _ _ hH h_fd h_fd_cornerXs h_fd_cornerYs h_fd_crossings h_ra h_ra_cells hbg _ (lv_sub hl [0, 1, 2, 3, 4, 5] rfl)
          · replace hf := (if_neg c2).symm.trans hf
            refine lv_aload_n hx hb dX5_partCovered_44 rfl (lv_at hl 1 rfl) ?_
            refine lv_iload hx hb dX5_partCovered_45 (lv_at hl 6 rfl) ?_
            obtain ⟨r3, k4, hf⟩ := zb1_some hf
            refine zcVi (C := RX0) (As := [.int (zI x6)]) (rest := []) hx hb hml hown hts hl.1 hK hH hA (c_X0_spans hI hN ho h_fd h_fd_crossings k4) zk_t3_198 zk_t3_199 zk_t3_200 zk_t1_13 zk_t3_201 hd_X0_spans rfl ⟨rfl, rfl, Nat.le_of_ble_eq_true rfl, Nat.le_of_ble_eq_true rfl⟩ ⟨Nat.zero_le _, Nat.zero_le _⟩ hk_fd h_fd rfl rfl rfl (Nat.le_of_ble_eq_true rfl) dX5_partCovered_47 (fun q6 σ5 Hσ5 lσ5 hp hH => ?_)
            obtain ⟨hr1, hs1⟩ := hp; subst hr1; rw [hs1] at hH
            obtain ⟨k7, hf⟩ := zck_some hf
            refine lz_if_eq (tgt := 79) hx hb k7 dX5_partCovered_50 (by decide) (fun c8 => ?_) (fun c8 => ?_)
            · replace hf := (if_pos c8).symm.trans hf
              refine lz_iinc (lv' := [(6, .int (zI (x6 + 1))), (0, .ref (ad 10)), (1, .ref (ad o)), (2, .int (zI x2)), (3, .int (zI x3)), (4, .int (zI x4)), (5, .int (zI x5))]) hx hb dX5_partCovered_79 hl (j := 6) rfl (by decide) rfl (fun ls hl => ?_)
              refine lv_goto (tgt := 37) hx hb dX5_partCovered_82 (by decide) ?_
              cases hf
              exact ih x2 x3 (x6 + 1) _ _ _ hnx _ _ _ hH h_fd h_fd_cornerXs h_fd_cornerYs h_fd_crossings h_ra h_ra_cells hbg _ (lv_sub hl [1, 2, 3, 4, 5, 6, 0] rfl) kx
            · replace hf := (if_neg c8).symm.trans hf
              refine lz_iinc (lv' := [(2, .int (zI (x2 + 1))), (0, .ref (ad 10)), (1, .ref (ad o)), (3, .int (zI x3)), (4, .int (zI x4)), (5, .int (zI x5)), (6, .int (zI x6))]) hx hb dX5_partCovered_53 hl (j := 2) rfl (by decide) rfl (fun ls hl => ?_)
              refine lv_iload_n hx hb dX5_partCovered_56 rfl (lv_at hl 3 rfl) ?_
              refine lv_aload_n hx hb dX5_partCovered_57 rfl (lv_at hl 1 rfl) ?_
              refine lv_iload hx hb dX5_partCovered_58 (lv_at hl 6 rfl) ?_
              refine lv_iload hx hb dX5_partCovered_60 (lv_at hl 5 rfl) ?_
              refine lv_aload_n hx hb dX5_partCovered_62 rfl (lv_at hl 2 rfl) ?_
              refine zget hx hb inlX0 rfl 9 rfl zk_t3_107 hts hown hK hH hk_fd h_fd rfl dX5_partCovered_63 ?_
              obtain ⟨r9, k10, hf⟩ := zb1_some hf
              refine zcVi (C := RX5) (As := [.int (zI x6), .int (zI x5), .int (zI fd_density)]) (rest := [.int (zI x3)]) hx hb hml hown hts hl.1 hK hH hA (c_X5_isNear hI hN  h_ra h_ra_cells k10) zk_t3_202 zk_t3_204 zk_s2_6 zk_t1_3 zk_t3_205 hd_X5_isNear rfl ⟨rfl, rfl, Nat.le_of_ble_eq_true rfl, Nat.le_of_ble_eq_true rfl⟩ ⟨Nat.zero_le _, Nat.zero_le _⟩ hk_ra h_ra rfl rfl rfl (Nat.le_of_ble_eq_true rfl) dX5_partCovered_66 (fun q12 σ11 Hσ11 lσ11 hp hH => ?_)
              obtain ⟨hr1, hs1⟩ := hp; subst hr1; rw [hs1] at hH
              obtain ⟨k13, hf⟩ := zck_some hf
              refine lz_if_eq (tgt := 76) hx hb k13 dX5_partCovered_69 (by decide) (fun c14 => ?_) (fun c14 => ?_)
              · replace hf := (if_pos c14).symm.trans hf
                refine lv_iconst (v := zI 0) hx hb dX5_partCovered_76 (by decide +kernel) ?_
                refine lz_iadd hx hb dX5_partCovered_77 ?_
                obtain ⟨v15, ev15, hf⟩ := zlt_some hf
                refine lz_nm ev15 ?_
                refine lv_istore_n (lv' := [(3, .int (zI v15)), (2, .int (zI (x2 + 1))), (0, .ref (ad 10)), (1, .ref (ad o)), (4, .int (zI x4)), (5, .int (zI x5)), (6, .int (zI x6))]) hx hb dX5_partCovered_78 rfl hl (by decide) rfl (fun ls hl => ?_)
                refine lz_iinc (lv' := [(6, .int (zI (x6 + 1))), (3, .int (zI v15)), (2, .int (zI (x2 + 1))), (0, .ref (ad 10)), (1, .ref (ad o)), (4, .int (zI x4)), (5, .int (zI x5))]) hx hb dX5_partCovered_79 hl (j := 6) rfl (by decide) rfl (fun ls hl => ?_)
                refine lv_goto (tgt := 37) hx hb dX5_partCovered_82 (by decide) ?_
                cases hf
                exact ih (x2 + 1) v15 (x6 + 1) _ _ _ hnx _ _ _ hH h_fd h_fd_cornerXs h_fd_cornerYs h_fd_crossings h_ra h_ra_cells hbg _ (lv_sub hl [3, 4, 2, 1, 5, 6, 0] rfl) kx
              · replace hf := (if_neg c14).symm.trans hf
                refine lv_iconst (v := zI 1) hx hb dX5_partCovered_72 (by decide +kernel) ?_
                refine lv_goto (tgt := 77) hx hb dX5_partCovered_73 (by decide) ?_
                refine lz_iadd hx hb dX5_partCovered_77 ?_
                obtain ⟨v16, ev16, hf⟩ := zlt_some hf
                refine lz_nm ev16 ?_
                refine lv_istore_n (lv' := [(3, .int (zI v16)), (2, .int (zI (x2 + 1))), (0, .ref (ad 10)), (1, .ref (ad o)), (4, .int (zI x4)), (5, .int (zI x5)), (6, .int (zI x6))]) hx hb dX5_partCovered_78 rfl hl (by decide) rfl (fun ls hl => ?_)
                refine lz_iinc (lv' := [(6, .int (zI (x6 + 1))), (3, .int (zI v16)), (2, .int (zI (x2 + 1))), (0, .ref (ad 10)), (1, .ref (ad o)), (4, .int (zI x4)), (5, .int (zI x5))]) hx hb dX5_partCovered_79 hl (j := 6) rfl (by decide) rfl (fun ls hl => ?_)
                refine lv_goto (tgt := 37) hx hb dX5_partCovered_82 (by decide) ?_
                cases hf
                exact ih (x2 + 1) v16 (x6 + 1) _ _ _ hnx _ _ _ hH h_fd h_fd_cornerXs h_fd_cornerYs h_fd_crossings h_ra h_ra_cells hbg _ (lv_sub hl [3, 4, 2, 1, 5, 6, 0] rfl) kx
      unfold f_X5_partCovered_L21 at hf
      refine lv_iload hx hb dX5_partCovered_21 (lv_at hl 5 rfl) ?_
      refine lv_iload hx hb dX5_partCovered_23 (lv_at hl 4 rfl) ?_
      obtain ⟨k17, hf⟩ := zck_some hf
      refine lz_icmp_ge (tgt := 91) hx hb k17 dX5_partCovered_25 (by decide) (fun c18 => ?_) (fun c18 => ?_)
      · replace hf := (if_pos c18).symm.trans hf
        cases hf
        cases hnx
        exact kx _ _ _ hH h_fd h_fd_cornerXs h_fd_cornerYs h_fd_crossings h_ra h_ra_cells hbg _ (lv_sub hl [2, 3] rfl)
      · replace hf := (if_neg c18).symm.trans hf
        refine lv_aload_n hx hb dX5_partCovered_28 rfl (lv_at hl 1 rfl) ?_
        refine lv_iload hx hb dX5_partCovered_29 (lv_at hl 5 rfl) ?_
        obtain ⟨a19, u20, k21, hf⟩ := zb2_some hf
        refine zcVv (C := RX0) (As := [.int (zI x5)]) (rest := []) hx hb hml hown hts hl.1 hK hH hA (c_X0_cross hI hN ho h_fd h_fd_cornerXs h_fd_cornerYs h_fd_crossings k21) zk_t3_197 zk_t2_17 zk_t2_18 zk_t1_13 zk_t2_19 hd_X0_cross rfl ⟨rfl, rfl, Nat.le_of_ble_eq_true rfl, Nat.le_of_ble_eq_true rfl⟩ ⟨Nat.zero_le _, Nat.zero_le _⟩ hk_fd h_fd rfl rfl rfl (Nat.le_of_ble_eq_true rfl) dX5_partCovered_31 (fun σ22 Hσ22 lσ22 hp hH => ?_)
        obtain ⟨h_fd, h_fd_crossings, hn⟩ := hp
        have h_fd_cornerXs := (hn (o + 1) (by omega) (by omega)).trans h_fd_cornerXs
        have h_fd_cornerYs := (hn (o + 2) (by omega) (by omega)).trans h_fd_cornerYs
        have h_ra := (hn 10 (by omega) (by omega)).trans h_ra
        have h_ra_cells := (hn 11 (by omega) (by omega)).trans h_ra_cells
        have hbg : ∀ i : Nat, i ≠ o → i ≠ (o + 3) → σ22 i = σ0 i := fun i a0 a1 => (hn i a0 a1).trans (hbg i a0 a1)
        refine lv_iconst (v := zI 0) hx hb dX5_partCovered_34 (by decide +kernel) ?_
        refine lv_istore (lv' := [(6, .int (zI 0)), (0, .ref (ad 10)), (1, .ref (ad o)), (2, .int (zI x2)), (3, .int (zI x3)), (4, .int (zI x4)), (5, .int (zI x5))]) hx hb dX5_partCovered_35 hl (by decide) rfl (fun ls hl => ?_)
        obtain ⟨w24, w25, w26, k23, hf⟩ := zb3_some hf
        refine L37 a19 u20 x4 x5 zFU x2 x3 0 w24 w25 w26 k23 _ _ _ hH h_fd h_fd_cornerXs h_fd_cornerYs h_fd_crossings h_ra h_ra_cells hbg _ (lv_sub hl [1, 2, 3, 4, 5, 6, 0] rfl) (fun σ27 Hσ27 lσ27 hH h_fd h_fd_cornerXs h_fd_cornerYs h_fd_crossings h_ra h_ra_cells hbg ls hl => ?_)
        refine lz_iinc (lv' := [(5, .int (zI (x5 + 1))), (0, .ref (ad 10)), (1, .ref (ad o)), (2, .int (zI w24)), (3, .int (zI w25)), (4, .int (zI x4))]) hx hb dX5_partCovered_85 hl (j := 5) rfl (by decide) rfl (fun ls hl => ?_)
        refine lv_goto (tgt := 21) hx hb dX5_partCovered_88 (by decide) ?_
        cases hf
        exact ih w24 w25 (x5 + 1) a19 u20 _ _ _ _ _ hnx _ _ _ hH h_fd h_fd_cornerXs h_fd_cornerYs h_fd_crossings h_ra h_ra_cells hbg _ (lv_sub hl [1, 2, 3, 4, 5, 0] rfl) kx
  unfold f_X5_partCovered at hf
  refine lv_iconst (v := zI 0) hx hb dX5_partCovered_0 (by decide +kernel) ?_
  refine lv_istore_n (lv' := [(2, .int (zI 0)), (0, .ref (ad 10)), (1, .ref (ad o))]) hx hb dX5_partCovered_1 rfl hl (by decide) rfl (fun ls hl => ?_)
  refine lv_iconst (v := zI 0) hx hb dX5_partCovered_2 (by decide +kernel) ?_
  refine lv_istore_n (lv' := [(3, .int (zI 0)), (2, .int (zI 0)), (0, .ref (ad 10)), (1, .ref (ad o))]) hx hb dX5_partCovered_3 rfl hl (by decide) rfl (fun ls hl => ?_)
  refine lv_aload_n hx hb dX5_partCovered_4 rfl (lv_at hl 3 rfl) ?_
  obtain ⟨r28, k29, hf⟩ := zb1_some hf
  refine zcVi (C := RX0) (As := []) (rest := []) hx hb hml hown hts hl.1 hK hH hA (c_X0_greatestY hI hN ho h_fd h_fd_cornerYs k29) zk_t3_194 zk_t2_13 zk_t2_14 zk_t1_13 zk_t2_15 hd_X0_greatestY rfl ⟨rfl, rfl, Nat.le_of_ble_eq_true rfl, Nat.le_of_ble_eq_true rfl⟩ ⟨Nat.zero_le _, Nat.zero_le _⟩ hk_fd h_fd rfl rfl rfl (Nat.le_of_ble_eq_true rfl) dX5_partCovered_5 (fun q31 σ30 Hσ30 lσ30 hp hH => ?_)
  obtain ⟨hr1, hs1⟩ := hp; subst hr1; rw [hs1] at hH
  refine lv_bipush (v := zI 32) hx hb dX5_partCovered_8 (by decide +kernel) ?_
  obtain ⟨k32, hf⟩ := zck_some hf
  refine lz_mmin hx hb (hml.trans hl.1.symm) hown hts zk_t3_195 zk_t2_10 zk_t1_6 zk_t2_11 ⟨Nat.le_of_ble_eq_true rfl, Nat.le_of_ble_eq_true rfl⟩ ⟨Nat.zero_le _, Nat.zero_le _⟩ ⟨k32, by decide⟩ dX5_partCovered_10 ?_
  obtain ⟨v33, ev33, hf⟩ := zlt_some hf
  refine lz_nm ev33 ?_
  refine lv_istore (lv' := [(4, .int (zI v33)), (3, .int (zI 0)), (2, .int (zI 0)), (0, .ref (ad 10)), (1, .ref (ad o))]) hx hb dX5_partCovered_13 hl (by decide) rfl (fun ls hl => ?_)
  refine lv_aload_n hx hb dX5_partCovered_15 rfl (lv_at hl 4 rfl) ?_
  obtain ⟨r34, k35, hf⟩ := zb1_some hf
  refine zcVi (C := RX0) (As := []) (rest := []) hx hb hml hown hts hl.1 hK hH hA (c_X0_leastY hI hN ho h_fd h_fd_cornerYs k35) zk_t3_196 zk_t2_6 zk_t2_7 zk_t1_13 zk_t2_8 hd_X0_leastY rfl ⟨rfl, rfl, Nat.le_of_ble_eq_true rfl, Nat.le_of_ble_eq_true rfl⟩ ⟨Nat.zero_le _, Nat.zero_le _⟩ hk_fd h_fd rfl rfl rfl (Nat.le_of_ble_eq_true rfl) dX5_partCovered_16 (fun q37 σ36 Hσ36 lσ36 hp hH => ?_)
  obtain ⟨hr1, hs1⟩ := hp; subst hr1; rw [hs1] at hH
  refine lv_istore (lv' := [(5, .int (zI r34)), (4, .int (zI v33)), (3, .int (zI 0)), (2, .int (zI 0)), (0, .ref (ad 10)), (1, .ref (ad o))]) hx hb dX5_partCovered_19 hl (by decide) rfl (fun ls hl => ?_)
  obtain ⟨w39, w40, w41, w42, w43, k38, hf⟩ := zb5_some hf
  refine L21 v33 zFU 0 0 r34 fd_crossings fd_crossingCount w39 w40 w41 w42 w43 k38 _ _ _ hH h_fd h_fd_cornerXs h_fd_cornerYs h_fd_crossings h_ra h_ra_cells hbg _ (lv_sub hl [4, 5, 3, 2, 1, 0] rfl) (fun σ44 Hσ44 lσ44 hH h_fd h_fd_cornerXs h_fd_cornerYs h_fd_crossings h_ra h_ra_cells hbg ls hl => ?_)
  refine lv_iload_n hx hb dX5_partCovered_91 rfl (lv_at hl 0 rfl) ?_
  obtain ⟨k45, hf⟩ := zck_some hf
  refine lz_if_ne (tgt := 99) hx hb k45 dX5_partCovered_92 (by decide) (fun c46 => ?_) (fun c46 => ?_)
  · replace hf := (if_neg c46).symm.trans hf
    refine lv_iload_n hx hb dX5_partCovered_99 rfl (lv_at hl 1 rfl) ?_
    refine lv_i2f hx hb dX5_partCovered_100 ?_
    refine lv_iload_n hx hb dX5_partCovered_101 rfl (lv_at hl 0 rfl) ?_
    refine lv_i2f hx hb dX5_partCovered_102 ?_
    obtain ⟨k47, hf⟩ := zck_some hf
    refine lv_fdiv hx hb dX5_partCovered_103 k47 ?_
    cases hf
    exact zretf hx hb hr hlocks hQ hH ⟨rfl, h_fd, h_fd_crossings, hbg⟩ dX5_partCovered_104
  · replace hf := (if_pos c46).symm.trans hf
    refine lv_fconst0 hx hb dX5_partCovered_95 ?_
    refine lv_goto (tgt := 104) hx hb dX5_partCovered_96 (by decide) ?_
    cases hf
    exact zretf hx hb hr hlocks hQ hH ⟨rfl, h_fd, h_fd_crossings, hbg⟩ dX5_partCovered_104
