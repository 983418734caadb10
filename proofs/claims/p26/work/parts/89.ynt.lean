abbrev rnX6_fieldNumbered : Room := { frames := 6, cells := 0, slots := 0, locals := 92 }
set_option maxHeartbeats 4000000 in
set_option maxRecDepth 100000 in
theorem n_X6_fieldNumbered {l : Launch} {D : va_G} {cI cZ cF cL cD : ClassId} {ad : Nat → Nat} {N : Nat} (hI : ∀ i j, i < N → j < N → ad i = ad j → i = j) (hN : 19 ≤ N) {nF : Int} (hNF : N = 19 + 7 * nF.toNat) {σ0 : Nat → va_E} {sz : Nat} {sp_fieldCount : Int} {sp_trimBound : Int} {sp_planned : Int} {p1 : Int} {R0 : Int} (h_sp : σ0 0 = oC_sp ad sp_fieldCount sp_trimBound sp_planned) (h_sp_fields : σ0 1 = .inl (cF, 8, .inr (.inr (.inr (.inr (zFA ad nF)))))) (hf : f_X6_fieldNumbered sp_fieldCount nF p1 = some (0, R0)) :
    Met l yX6_fieldNumbered (Cond.code yX6_fieldNumbered cX6_fieldNumbered 3 (some (.object "Stitchpath$Field")) :: wsL_law) rnX6_fieldNumbered (zPre D ad N (zT cI cZ cF cL cD) σ0 sz [.ref (ad 0), .int (zI p1)]) (zQq D ad N sz (fun r σ' => r = some (ad (fB R0)) ∧ σ' = σ0)) 0 0 (zFr ad N sz) := by
  refine zMet hI (plainFor_of_name (by decide)) (Nat.le_of_ble_eq_true rfl) ⟨rfl, rfl⟩ ?_
  intro p e s m args below meth c Q hx hb hr hlocks hml hown hts hK hsz hQ hH hA ls hl
  subst hsz
  have hk_sp : 0 < N := by omega
  have hk_sp_fields : 1 < N := by omega
  have hl : lv_has ls 3 [(0, .ref (ad 0)), (1, .int (zI p1))] := hl
  have hbg : σ0 = σ0 := rfl
  unfold f_X6_fieldNumbered at hf
  refine lv_iload_n hx hb dX6_fieldNumbered_0 rfl (lv_at hl 1 rfl) ?_
  obtain ⟨k1, hf⟩ := zck_some hf
  refine lz_if_lt (tgt := 21) hx hb k1 dX6_fieldNumbered_1 (by decide) (fun c2 => ?_) (fun c2 => ?_)
  · replace hf := (if_pos c2).symm.trans hf
    exact absurd (show (3 : Int) = 0 from congrArg Prod.fst (Option.some.inj hf)) (by decide)
  · replace hf := (if_neg c2).symm.trans hf
    refine lv_iload_n hx hb dX6_fieldNumbered_4 rfl (lv_at hl 1 rfl) ?_
    refine lv_aload_n hx hb dX6_fieldNumbered_5 rfl (lv_at hl 0 rfl) ?_
    refine zget hx hb inlX6 rfl 6 rfl zk_t1_155 hts hown hK hH hk_sp h_sp rfl dX6_fieldNumbered_6 ?_
    obtain ⟨k3, hf⟩ := zck_some hf
    refine lz_icmp_ge (tgt := 21) hx hb k3 dX6_fieldNumbered_9 (by decide) (fun c4 => ?_) (fun c4 => ?_)
    · replace hf := (if_pos c4).symm.trans hf
      exact absurd (show (3 : Int) = 0 from congrArg Prod.fst (Option.some.inj hf)) (by decide)
    · replace hf := (if_neg c4).symm.trans hf
      refine lv_iload_n hx hb dX6_fieldNumbered_12 rfl (lv_at hl 1 rfl) ?_
      refine lv_aload_n hx hb dX6_fieldNumbered_13 rfl (lv_at hl 0 rfl) ?_
      refine zget hx hb inlX6 rfl 0 rfl zk_t1_149 hts hown hK hH hk_sp h_sp rfl dX6_fieldNumbered_14 ?_
      refine zalen (z := 8) hx hb hK hH hk_sp_fields 2 h_sp_fields rfl (show Int32.ofNat 8 = zI 8 by decide +kernel) dX6_fieldNumbered_17 ?_
      obtain ⟨k5, hf⟩ := zck_some hf
      refine lz_icmp_lt (tgt := 31) hx hb ⟨k5, by decide⟩ dX6_fieldNumbered_18 (by decide) (fun c6 => ?_) (fun c6 => ?_)
      · replace hf := (if_pos c6).symm.trans hf
        refine lv_aload_n hx hb dX6_fieldNumbered_31 rfl (lv_at hl 0 rfl) ?_
        refine zget hx hb inlX6 rfl 0 rfl zk_t1_149 hts hown hK hH hk_sp h_sp rfl dX6_fieldNumbered_32 ?_
        refine lv_iload_n hx hb dX6_fieldNumbered_35 rfl (lv_at hl 1 rfl) ?_
        obtain ⟨k7, hf⟩ := zck_some hf
        refine zaald hx hb hK hH hk_sp_fields 2 h_sp_fields rfl k7 rfl dX6_fieldNumbered_36 ?_
        refine lz_astore_nq (lv' := [(2, va_rf (zfo ad nF p1)), (0, .ref (ad 0)), (1, .int (zI p1))]) hx hb dX6_fieldNumbered_37 rfl hl (by decide) rfl (fun ls hl => ?_)
        refine lz_aload_nq hx hb dX6_fieldNumbered_38 rfl (lv_at hl 0 rfl) ?_
        refine lz_ifnonnull (tgt := 52) hx hb dX6_fieldNumbered_39 (by decide) (fun c8 => ?_) (fun c8 => ?_)
        · replace hf := (if_pos c8).symm.trans hf
          refine lz_aload_nq hx hb dX6_fieldNumbered_52 rfl (lv_at hl 0 rfl) ?_
          obtain ⟨k9, hf⟩ := zck_some hf
          refine lz_deref k9 ?_
          cases hf
          exact zretq hx hb hr (Or.inl ⟨_, rfl⟩) hlocks hQ hH ⟨rfl, hbg⟩ dX6_fieldNumbered_53
        · replace hf := (if_neg c8).symm.trans hf
          exact absurd (show (3 : Int) = 0 from congrArg Prod.fst (Option.some.inj hf)) (by decide)
      · replace hf := (if_neg c6).symm.trans hf
        exact absurd (show (3 : Int) = 0 from congrArg Prod.fst (Option.some.inj hf)) (by decide)
abbrev rnX6_ofCommand : Room := { frames := 7, cells := 0, slots := 0, locals := 167 }
set_option maxHeartbeats 4000000 in
set_option maxRecDepth 100000 in
theorem n_X6_ofCommand {l : Launch} {D : va_G} {cI cZ cF cL cD : ClassId} {ad : Nat → Nat} {N : Nat} (hI : ∀ i j, i < N → j < N → ad i = ad j → i = j) (hN : 19 ≤ N) {nF : Int} (hNF : N = 19 + 7 * nF.toNat) {σ0 : Nat → va_E} {sz : Nat} {sp_waiting : Int → Int} {sp_fieldCount : Int} {sp_trimBound : Int} {sp_planned : Int} {F_fd_colour : Int → Int} {F_fd_layer : Int → Int} {F_fd_column : Int → Int} {F_fd_cornerXs : Int → Int → Int} {F_fd_cornerYs : Int → Int → Int} {F_fd_crossings : Int → Int → Int} {F_fd_cornerCount : Int → Int} {F_fd_crossingCount : Int → Int} {F_fd_density : Int → Int} {F_fd_length : Int → Int} {F_fd_shift : Int → Int} {F_fd_pull : Int → Int} {F_fd_underlay : Int → Int} {F_fd_drawn : Int → Int} {F_pt_xs : Int → Int → Int} {F_pt_ys : Int → Int → Int} {F_pt_size : Int → Int} {pl_kinds : Int → Int} {pl_differencesX : Int → Int} {pl_differencesY : Int → Int} {pl_owners : Int → Int} {pl_kindCounts : Int → Int} {pl_threads : Int → Int} {pl_size : Int} {pl_seconds : UInt32} {pl_needleX : Int} {pl_needleY : Int} {pl_colour : Int} {p1 : Int} {p2 : Int} {R0 : Int} {R_sp_waiting : Int → Int} {R_sp_planned : Int} {R_F_fd_crossings : Int → Int → Int} {R_F_fd_crossingCount : Int → Int} {R_F_fd_drawn : Int → Int} {R_F_pt_xs : Int → Int → Int} {R_F_pt_ys : Int → Int → Int} {R_F_pt_size : Int → Int} {R_pl_kinds : Int → Int} {R_pl_differencesX : Int → Int} {R_pl_differencesY : Int → Int} {R_pl_owners : Int → Int} {R_pl_kindCounts : Int → Int} {R_pl_threads : Int → Int} {R_pl_size : Int} {R_pl_seconds : UInt32} {R_pl_needleX : Int} {R_pl_needleY : Int} {R_pl_colour : Int} (h_sp : σ0 0 = oC_sp ad sp_fieldCount sp_trimBound sp_planned) (h_sp_fields : σ0 1 = .inl (cF, 8, .inr (.inr (.inr (.inr (zFA ad nF)))))) (h_sp_waiting : σ0 2 = .inl (cZ, 8, .inl (zA sp_waiting))) (h_pl : σ0 3 = oC_pl ad pl_size pl_seconds pl_needleX pl_needleY pl_colour) (h_pl_kinds : σ0 4 = .inl (cI, 16641, .inl (zA pl_kinds))) (h_pl_differencesX : σ0 5 = .inl (cI, 16641, .inl (zA pl_differencesX))) (h_pl_differencesY : σ0 6 = .inl (cI, 16641, .inl (zA pl_differencesY))) (h_pl_owners : σ0 7 = .inl (cI, 16641, .inl (zA pl_owners))) (h_pl_kindCounts : σ0 8 = .inl (cI, 5, .inl (zA pl_kindCounts))) (h_pl_threads : σ0 9 = .inl (cI, 6, .inl (zA pl_threads))) (h_FF : zFF ad cI nF σ0 F_fd_colour F_fd_layer F_fd_column F_fd_cornerXs F_fd_cornerYs F_fd_crossings F_fd_cornerCount F_fd_crossingCount F_fd_density F_fd_length F_fd_shift F_fd_pull F_fd_underlay F_fd_drawn F_pt_xs F_pt_ys F_pt_size) (hf : f_X6_ofCommand sp_waiting sp_trimBound sp_planned F_fd_colour F_fd_layer F_fd_column F_fd_cornerXs F_fd_cornerYs F_fd_crossings F_fd_cornerCount F_fd_crossingCount F_fd_density F_fd_length F_fd_shift F_fd_pull F_fd_underlay F_fd_drawn F_pt_xs F_pt_ys F_pt_size pl_kinds pl_differencesX pl_differencesY pl_owners pl_kindCounts pl_threads pl_size pl_seconds pl_needleX pl_needleY pl_colour nF p1 p2 = some (0, R0, R_sp_waiting, R_sp_planned, R_F_fd_crossings, R_F_fd_crossingCount, R_F_fd_drawn, R_F_pt_xs, R_F_pt_ys, R_F_pt_size, R_pl_kinds, R_pl_differencesX, R_pl_differencesY, R_pl_owners, R_pl_kindCounts, R_pl_threads, R_pl_size, R_pl_seconds, R_pl_needleX, R_pl_needleY, R_pl_colour)) :
    Met l yX6_ofCommand (Cond.code yX6_ofCommand cX6_ofCommand 3 (some .int) :: wsL_law) rnX6_ofCommand (zPre D ad N (zT cI cZ cF cL cD) σ0 sz [.ref (ad 0), .int (zI p1), .int (zI p2)]) (zQi D ad N sz (fun r σ' => r = zI R0 ∧ σ' 0 = oC_sp ad sp_fieldCount sp_trimBound R_sp_planned ∧ σ' 2 = .inl (cZ, 8, .inl (zA R_sp_waiting)) ∧ σ' 3 = oC_pl ad R_pl_size R_pl_seconds R_pl_needleX R_pl_needleY R_pl_colour ∧ σ' 4 = .inl (cI, 16641, .inl (zA R_pl_kinds)) ∧ σ' 5 = .inl (cI, 16641, .inl (zA R_pl_differencesX)) ∧ σ' 6 = .inl (cI, 16641, .inl (zA R_pl_differencesY)) ∧ σ' 7 = .inl (cI, 16641, .inl (zA R_pl_owners)) ∧ σ' 8 = .inl (cI, 5, .inl (zA R_pl_kindCounts)) ∧ σ' 9 = .inl (cI, 6, .inl (zA R_pl_threads)) ∧ zFF ad cI nF σ' F_fd_colour F_fd_layer F_fd_column F_fd_cornerXs F_fd_cornerYs R_F_fd_crossings F_fd_cornerCount R_F_fd_crossingCount F_fd_density F_fd_length F_fd_shift F_fd_pull F_fd_underlay R_F_fd_drawn R_F_pt_xs R_F_pt_ys R_F_pt_size ∧ ∀ i : Nat, i < 19 → i ≠ 0 → i ≠ 2 → i ≠ 3 → i ≠ 4 → i ≠ 5 → i ≠ 6 → i ≠ 7 → i ≠ 8 → i ≠ 9 → σ' i = σ0 i)) 0 0 (zFr ad N sz) := by
  refine zMet hI (plainFor_of_name (by decide)) (Nat.le_of_ble_eq_true rfl) ⟨rfl, rfl⟩ ?_
  intro p e s m args below meth c Q hx hb hr hlocks hml hown hts hK hsz hQ hH hA ls hl
  subst hsz
  have hk_sp : 0 < N := by omega
  have hk_sp_fields : 1 < N := by omega
  have hk_sp_waiting : 2 < N := by omega
  have hk_pl : 3 < N := by omega
  have hk_pl_kinds : 4 < N := by omega
  have hk_pl_differencesX : 5 < N := by omega
  have hk_pl_differencesY : 6 < N := by omega
  have hk_pl_owners : 7 < N := by omega
  have hk_pl_kindCounts : 8 < N := by omega
  have hk_pl_threads : 9 < N := by omega
  have hl : lv_has ls 3 [(0, .ref (ad 0)), (1, .int (zI p1)), (2, .int (zI p2))] := hl
  have hbg : ∀ i : Nat, i < 19 → i ≠ 0 → i ≠ 2 → i ≠ 3 → i ≠ 4 → i ≠ 5 → i ≠ 6 → i ≠ 7 → i ≠ 8 → i ≠ 9 → σ0 i = σ0 i := fun _ _ _ _ _ _ _ _ _ _ _ => rfl
  unfold f_X6_ofCommand at hf
  refine lv_aload_n hx hb dX6_ofCommand_0 rfl (lv_at hl 0 rfl) ?_
  obtain ⟨a1, u2, u3, u4, u5, u6, u7, u8, a9, a10, a11, a12, a13, a14, u15, u16, u17, u18, u19, k20, hf⟩ := zb19_some hf
  refine zcVv (C := RX6) (As := []) (rest := []) hx hb hml hown hts hl.1 hK hH hA (c_X6_refresh hI hN hNF  h_sp h_sp_fields h_sp_waiting h_pl h_pl_kinds h_pl_differencesX h_pl_differencesY h_pl_owners h_pl_kindCounts h_pl_threads h_FF k20) zk_t1_193 zk_t1_195 zk_s1_0 zk_t1_1 zk_t1_196 hd_X6_refresh rfl ⟨rfl, rfl, Nat.le_of_ble_eq_true rfl, Nat.le_of_ble_eq_true rfl⟩ ⟨Nat.zero_le _, Nat.zero_le _⟩ hk_sp h_sp rfl rfl rfl (Nat.le_of_ble_eq_true rfl) dX6_ofCommand_1 (fun σ21 Hσ21 lσ21 hp hH => ?_)
  obtain ⟨h_sp, h_sp_waiting, h_pl, h_pl_kinds, h_pl_differencesX, h_pl_differencesY, h_pl_owners, h_pl_kindCounts, h_pl_threads, h_FF, hn⟩ := hp
  have h_sp_fields := (hn 1 (by decide) (by decide) (by decide) (by decide) (by decide) (by decide) (by decide) (by decide) (by decide) (by decide)).trans h_sp_fields
  have hbg : ∀ i : Nat, i < 19 → i ≠ 0 → i ≠ 2 → i ≠ 3 → i ≠ 4 → i ≠ 5 → i ≠ 6 → i ≠ 7 → i ≠ 8 → i ≠ 9 → σ21 i = σ0 i := fun i h46 a0 a1 a2 a3 a4 a5 a6 a7 a8 => (hn i h46 a0 a1 a2 a3 a4 a5 a6 a7 a8).trans (hbg i h46 a0 a1 a2 a3 a4 a5 a6 a7 a8)
  refine lv_iload_n hx hb dX6_ofCommand_4 rfl (lv_at hl 1 rfl) ?_
  refine lv_iconst (v := zI 0) hx hb dX6_ofCommand_5 (by decide +kernel) ?_
  refine lv_aload_n hx hb dX6_ofCommand_6 rfl (lv_at hl 0 rfl) ?_
  refine zget hx hb inlX6 rfl 2 rfl zk_t1_151 hts hown hK hH hk_sp h_sp rfl dX6_ofCommand_7 ?_
  refine zget hx hb inlX3 rfl 6 rfl zk_t1_42 hts hown hK hH hk_pl h_pl rfl dX6_ofCommand_10 ?_
  refine lv_iconst (v := zI 1) hx hb dX6_ofCommand_13 (by decide +kernel) ?_
  refine lz_isub hx hb dX6_ofCommand_14 ?_
  obtain ⟨r22, k23, hf⟩ := zb1_some hf
  refine zcSi (As := [.int (zI p1), .int (zI 0), .int (zI (u15 - 1))]) (rest := []) hx hb hml hown hts hl.1 hK hH hA (c_X6_isWithin hI hN   k23) zk_t2_87 zk_t2_88 zk_t1_1 zk_t2_89 hd_X6_isWithin rfl ⟨rfl, rfl, Nat.le_of_ble_eq_true rfl, Nat.le_of_ble_eq_true rfl⟩ ⟨Nat.zero_le _, Nat.zero_le _⟩ rfl (Nat.le_of_ble_eq_true rfl) dX6_ofCommand_15 (fun q25 σ24 Hσ24 lσ24 hp hH => ?_)
  obtain ⟨hr1, hs1⟩ := hp; subst hr1; rw [hs1] at hH
  obtain ⟨k26, hf⟩ := zck_some hf
  refine lz_if_ne (tgt := 31) hx hb k26 dX6_ofCommand_18 (by decide) (fun c27 => ?_) (fun c27 => ?_)
  · replace hf := (if_neg c27).symm.trans hf
    refine lv_iload_n hx hb dX6_ofCommand_31 rfl (lv_at hl 2 rfl) ?_
    refine lv_iconst (v := zI 0) hx hb dX6_ofCommand_32 (by decide +kernel) ?_
    refine lv_iconst (v := zI 3) hx hb dX6_ofCommand_33 (by decide +kernel) ?_
    obtain ⟨r28, k29, hf⟩ := zb1_some hf
    refine zcSi (As := [.int (zI p2), .int (zI 0), .int (zI 3)]) (rest := []) hx hb hml hown hts hl.1 hK hH hA (c_X6_isWithin hI hN   k29) zk_t2_87 zk_t2_88 zk_t1_1 zk_t2_89 hd_X6_isWithin rfl ⟨rfl, rfl, Nat.le_of_ble_eq_true rfl, Nat.le_of_ble_eq_true rfl⟩ ⟨Nat.zero_le _, Nat.zero_le _⟩ rfl (Nat.le_of_ble_eq_true rfl) dX6_ofCommand_34 (fun q31 σ30 Hσ30 lσ30 hp hH => ?_)
    obtain ⟨hr1, hs1⟩ := hp; subst hr1; rw [hs1] at hH
    obtain ⟨k32, hf⟩ := zck_some hf
    refine lz_if_ne (tgt := 50) hx hb k32 dX6_ofCommand_37 (by decide) (fun c33 => ?_) (fun c33 => ?_)
    · replace hf := (if_neg c33).symm.trans hf
      refine lv_aload_n hx hb dX6_ofCommand_50 rfl (lv_at hl 0 rfl) ?_
      refine zget hx hb inlX6 rfl 2 rfl zk_t1_151 hts hown hK hH hk_sp h_sp rfl dX6_ofCommand_51 ?_
      refine lv_iload_n hx hb dX6_ofCommand_54 rfl (lv_at hl 1 rfl) ?_
      refine lv_iload_n hx hb dX6_ofCommand_55 rfl (lv_at hl 2 rfl) ?_
      obtain ⟨r34, k35, hf⟩ := zb1_some hf
      refine zcVi (C := RX3) (As := [.int (zI p1), .int (zI p2)]) (rest := []) hx hb hml hown hts hl.1 hK hH hA (c_X3_told hI hN  h_pl h_pl_kinds h_pl_differencesX h_pl_differencesY h_pl_owners k35) zk_t2_174 zk_t2_175 zk_t2_176 zk_t1_2 zk_t2_177 hd_X3_told rfl ⟨rfl, rfl, Nat.le_of_ble_eq_true rfl, Nat.le_of_ble_eq_true rfl⟩ ⟨Nat.zero_le _, Nat.zero_le _⟩ hk_pl h_pl rfl rfl rfl (Nat.le_of_ble_eq_true rfl) dX6_ofCommand_56 (fun q37 σ36 Hσ36 lσ36 hp hH => ?_)
      obtain ⟨hr1, hs1⟩ := hp; subst hr1; rw [hs1] at hH
      cases hf
      exact zreti hx hb hr hlocks hQ hH ⟨rfl, h_sp, h_sp_waiting, h_pl, h_pl_kinds, h_pl_differencesX, h_pl_differencesY, h_pl_owners, h_pl_kindCounts, h_pl_threads, h_FF, hbg⟩ dX6_ofCommand_59
    · replace hf := (if_pos c33).symm.trans hf
      exact absurd (show (1 : Int) = 0 from congrArg Prod.fst (Option.some.inj hf)) (by decide)
  · replace hf := (if_pos c27).symm.trans hf
    exact absurd (show (3 : Int) = 0 from congrArg Prod.fst (Option.some.inj hf)) (by decide)
abbrev rnX6_count : Room := { frames := 7, cells := 0, slots := 0, locals := 167 }
set_option maxHeartbeats 4000000 in
set_option maxRecDepth 100000 in
theorem n_X6_count {l : Launch} {D : va_G} {cI cZ cF cL cD : ClassId} {ad : Nat → Nat} {N : Nat} (hI : ∀ i j, i < N → j < N → ad i = ad j → i = j) (hN : 19 ≤ N) {nF : Int} (hNF : N = 19 + 7 * nF.toNat) {σ0 : Nat → va_E} {sz : Nat} {sp_waiting : Int → Int} {sp_fieldCount : Int} {sp_trimBound : Int} {sp_planned : Int} {F_fd_colour : Int → Int} {F_fd_layer : Int → Int} {F_fd_column : Int → Int} {F_fd_cornerXs : Int → Int → Int} {F_fd_cornerYs : Int → Int → Int} {F_fd_crossings : Int → Int → Int} {F_fd_cornerCount : Int → Int} {F_fd_crossingCount : Int → Int} {F_fd_density : Int → Int} {F_fd_length : Int → Int} {F_fd_shift : Int → Int} {F_fd_pull : Int → Int} {F_fd_underlay : Int → Int} {F_fd_drawn : Int → Int} {F_pt_xs : Int → Int → Int} {F_pt_ys : Int → Int → Int} {F_pt_size : Int → Int} {pl_kinds : Int → Int} {pl_differencesX : Int → Int} {pl_differencesY : Int → Int} {pl_owners : Int → Int} {pl_kindCounts : Int → Int} {pl_threads : Int → Int} {pl_size : Int} {pl_seconds : UInt32} {pl_needleX : Int} {pl_needleY : Int} {pl_colour : Int} {p1 : Int} {R0 : Int} {R_sp_waiting : Int → Int} {R_sp_planned : Int} {R_F_fd_crossings : Int → Int → Int} {R_F_fd_crossingCount : Int → Int} {R_F_fd_drawn : Int → Int} {R_F_pt_xs : Int → Int → Int} {R_F_pt_ys : Int → Int → Int} {R_F_pt_size : Int → Int} {R_pl_kinds : Int → Int} {R_pl_differencesX : Int → Int} {R_pl_differencesY : Int → Int} {R_pl_owners : Int → Int} {R_pl_kindCounts : Int → Int} {R_pl_threads : Int → Int} {R_pl_size : Int} {R_pl_seconds : UInt32} {R_pl_needleX : Int} {R_pl_needleY : Int} {R_pl_colour : Int} (h_sp : σ0 0 = oC_sp ad sp_fieldCount sp_trimBound sp_planned) (h_sp_fields : σ0 1 = .inl (cF, 8, .inr (.inr (.inr (.inr (zFA ad nF)))))) (h_sp_waiting : σ0 2 = .inl (cZ, 8, .inl (zA sp_waiting))) (h_pl : σ0 3 = oC_pl ad pl_size pl_seconds pl_needleX pl_needleY pl_colour) (h_pl_kinds : σ0 4 = .inl (cI, 16641, .inl (zA pl_kinds))) (h_pl_differencesX : σ0 5 = .inl (cI, 16641, .inl (zA pl_differencesX))) (h_pl_differencesY : σ0 6 = .inl (cI, 16641, .inl (zA pl_differencesY))) (h_pl_owners : σ0 7 = .inl (cI, 16641, .inl (zA pl_owners))) (h_pl_kindCounts : σ0 8 = .inl (cI, 5, .inl (zA pl_kindCounts))) (h_pl_threads : σ0 9 = .inl (cI, 6, .inl (zA pl_threads))) (h_FF : zFF ad cI nF σ0 F_fd_colour F_fd_layer F_fd_column F_fd_cornerXs F_fd_cornerYs F_fd_crossings F_fd_cornerCount F_fd_crossingCount F_fd_density F_fd_length F_fd_shift F_fd_pull F_fd_underlay F_fd_drawn F_pt_xs F_pt_ys F_pt_size) (hf : f_X6_count sp_waiting sp_trimBound sp_planned F_fd_colour F_fd_layer F_fd_column F_fd_cornerXs F_fd_cornerYs F_fd_crossings F_fd_cornerCount F_fd_crossingCount F_fd_density F_fd_length F_fd_shift F_fd_pull F_fd_underlay F_fd_drawn F_pt_xs F_pt_ys F_pt_size pl_kinds pl_differencesX pl_differencesY pl_owners pl_kindCounts pl_threads pl_size pl_seconds pl_needleX pl_needleY pl_colour nF p1 = some (0, R0, R_sp_waiting, R_sp_planned, R_F_fd_crossings, R_F_fd_crossingCount, R_F_fd_drawn, R_F_pt_xs, R_F_pt_ys, R_F_pt_size, R_pl_kinds, R_pl_differencesX, R_pl_differencesY, R_pl_owners, R_pl_kindCounts, R_pl_threads, R_pl_size, R_pl_seconds, R_pl_needleX, R_pl_needleY, R_pl_colour)) :
    Met l yX6_count (Cond.code yX6_count cX6_count 2 (some .int) :: wsL_law) rnX6_count (zPre D ad N (zT cI cZ cF cL cD) σ0 sz [.ref (ad 0), .int (zI p1)]) (zQi D ad N sz (fun r σ' => r = zI R0 ∧ σ' 0 = oC_sp ad sp_fieldCount sp_trimBound R_sp_planned ∧ σ' 2 = .inl (cZ, 8, .inl (zA R_sp_waiting)) ∧ σ' 3 = oC_pl ad R_pl_size R_pl_seconds R_pl_needleX R_pl_needleY R_pl_colour ∧ σ' 4 = .inl (cI, 16641, .inl (zA R_pl_kinds)) ∧ σ' 5 = .inl (cI, 16641, .inl (zA R_pl_differencesX)) ∧ σ' 6 = .inl (cI, 16641, .inl (zA R_pl_differencesY)) ∧ σ' 7 = .inl (cI, 16641, .inl (zA R_pl_owners)) ∧ σ' 8 = .inl (cI, 5, .inl (zA R_pl_kindCounts)) ∧ σ' 9 = .inl (cI, 6, .inl (zA R_pl_threads)) ∧ zFF ad cI nF σ' F_fd_colour F_fd_layer F_fd_column F_fd_cornerXs F_fd_cornerYs R_F_fd_crossings F_fd_cornerCount R_F_fd_crossingCount F_fd_density F_fd_length F_fd_shift F_fd_pull F_fd_underlay R_F_fd_drawn R_F_pt_xs R_F_pt_ys R_F_pt_size ∧ ∀ i : Nat, i < 19 → i ≠ 0 → i ≠ 2 → i ≠ 3 → i ≠ 4 → i ≠ 5 → i ≠ 6 → i ≠ 7 → i ≠ 8 → i ≠ 9 → σ' i = σ0 i)) 0 0 (zFr ad N sz) := by
  refine zMet hI (plainFor_of_name (by decide)) (Nat.le_of_ble_eq_true rfl) ⟨rfl, rfl⟩ ?_
  intro p e s m args below meth c Q hx hb hr hlocks hml hown hts hK hsz hQ hH hA ls hl
  subst hsz
  have hk_sp : 0 < N := by omega
  have hk_sp_fields : 1 < N := by omega
  have hk_sp_waiting : 2 < N := by omega
  have hk_pl : 3 < N := by omega
  have hk_pl_kinds : 4 < N := by omega
  have hk_pl_differencesX : 5 < N := by omega
  have hk_pl_differencesY : 6 < N := by omega
  have hk_pl_owners : 7 < N := by omega
  have hk_pl_kindCounts : 8 < N := by omega
  have hk_pl_threads : 9 < N := by omega
  have hl : lv_has ls 2 [(0, .ref (ad 0)), (1, .int (zI p1))] := hl
  have hbg : ∀ i : Nat, i < 19 → i ≠ 0 → i ≠ 2 → i ≠ 3 → i ≠ 4 → i ≠ 5 → i ≠ 6 → i ≠ 7 → i ≠ 8 → i ≠ 9 → σ0 i = σ0 i := fun _ _ _ _ _ _ _ _ _ _ _ => rfl
  unfold f_X6_count at hf
  refine lv_iload_n hx hb dX6_count_0 rfl (lv_at hl 1 rfl) ?_
  refine lv_iconst (v := zI 0) hx hb dX6_count_1 (by decide +kernel) ?_
  refine lv_iconst (v := zI 4) hx hb dX6_count_2 (by decide +kernel) ?_
  obtain ⟨r1, k2, hf⟩ := zb1_some hf
  refine zcSi (As := [.int (zI p1), .int (zI 0), .int (zI 4)]) (rest := []) hx hb hml hown hts hl.1 hK hH hA (c_X6_isWithin hI hN   k2) zk_t2_87 zk_t2_88 zk_t1_1 zk_t2_89 hd_X6_isWithin rfl ⟨rfl, rfl, Nat.le_of_ble_eq_true rfl, Nat.le_of_ble_eq_true rfl⟩ ⟨Nat.zero_le _, Nat.zero_le _⟩ rfl (Nat.le_of_ble_eq_true rfl) dX6_count_3 (fun q4 σ3 Hσ3 lσ3 hp hH => ?_)
  obtain ⟨hr1, hs1⟩ := hp; subst hr1; rw [hs1] at hH
  obtain ⟨k5, hf⟩ := zck_some hf
  refine lz_if_ne (tgt := 19) hx hb k5 dX6_count_6 (by decide) (fun c6 => ?_) (fun c6 => ?_)
  · replace hf := (if_neg c6).symm.trans hf
    refine lv_aload_n hx hb dX6_count_19 rfl (lv_at hl 0 rfl) ?_
    obtain ⟨a7, u8, u9, u10, u11, u12, u13, u14, a15, a16, a17, a18, a19, a20, u21, u22, u23, u24, u25, k26, hf⟩ := zb19_some hf
    refine zcVv (C := RX6) (As := []) (rest := []) hx hb hml hown hts hl.1 hK hH hA (c_X6_refresh hI hN hNF  h_sp h_sp_fields h_sp_waiting h_pl h_pl_kinds h_pl_differencesX h_pl_differencesY h_pl_owners h_pl_kindCounts h_pl_threads h_FF k26) zk_t1_193 zk_t1_195 zk_s1_0 zk_t1_1 zk_t1_196 hd_X6_refresh rfl ⟨rfl, rfl, Nat.le_of_ble_eq_true rfl, Nat.le_of_ble_eq_true rfl⟩ ⟨Nat.zero_le _, Nat.zero_le _⟩ hk_sp h_sp rfl rfl rfl (Nat.le_of_ble_eq_true rfl) dX6_count_20 (fun σ27 Hσ27 lσ27 hp hH => ?_)
    obtain ⟨h_sp, h_sp_waiting, h_pl, h_pl_kinds, h_pl_differencesX, h_pl_differencesY, h_pl_owners, h_pl_kindCounts, h_pl_threads, h_FF, hn⟩ := hp
    have h_sp_fields := (hn 1 (by decide) (by decide) (by decide) (by decide) (by decide) (by decide) (by decide) (by decide) (by decide) (by decide)).trans h_sp_fields
    have hbg : ∀ i : Nat, i < 19 → i ≠ 0 → i ≠ 2 → i ≠ 3 → i ≠ 4 → i ≠ 5 → i ≠ 6 → i ≠ 7 → i ≠ 8 → i ≠ 9 → σ27 i = σ0 i := fun i h46 a0 a1 a2 a3 a4 a5 a6 a7 a8 => (hn i h46 a0 a1 a2 a3 a4 a5 a6 a7 a8).trans (hbg i h46 a0 a1 a2 a3 a4 a5 a6 a7 a8)
    refine lv_aload_n hx hb dX6_count_23 rfl (lv_at hl 0 rfl) ?_
    refine zget hx hb inlX6 rfl 2 rfl zk_t1_151 hts hown hK hH hk_sp h_sp rfl dX6_count_24 ?_
    refine zget hx hb inlX3 rfl 4 rfl zk_t1_36 hts hown hK hH hk_pl h_pl rfl dX6_count_27 ?_
    refine lv_iload_n hx hb dX6_count_30 rfl (lv_at hl 1 rfl) ?_
    obtain ⟨k28, hf⟩ := zck_some hf
    refine ziald hx hb hK hH hk_pl_kindCounts 0 h_pl_kindCounts rfl k28 rfl dX6_count_31 ?_
    cases hf
    exact zreti hx hb hr hlocks hQ hH ⟨rfl, h_sp, h_sp_waiting, h_pl, h_pl_kinds, h_pl_differencesX, h_pl_differencesY, h_pl_owners, h_pl_kindCounts, h_pl_threads, h_FF, hbg⟩ dX6_count_32
  · replace hf := (if_pos c6).symm.trans hf
    exact absurd (show (1 : Int) = 0 from congrArg Prod.fst (Option.some.inj hf)) (by decide)
abbrev rnX6_covered : Room := { frames := 7, cells := 0, slots := 0, locals := 114 }
set_option maxHeartbeats 4000000 in
set_option maxRecDepth 100000 in
theorem n_X6_covered {l : Launch} {D : va_G} {cI cZ cF cL cD : ClassId} {ad : Nat → Nat} {N : Nat} (hI : ∀ i j, i < N → j < N → ad i = ad j → i = j) (hN : 19 ≤ N) {nF : Int} (hNF : N = 19 + 7 * nF.toNat) {σ0 : Nat → va_E} {sz : Nat} {sp_fieldCount : Int} {sp_trimBound : Int} {sp_planned : Int} {F_fd_colour : Int → Int} {F_fd_layer : Int → Int} {F_fd_column : Int → Int} {F_fd_cornerXs : Int → Int → Int} {F_fd_cornerYs : Int → Int → Int} {F_fd_crossings : Int → Int → Int} {F_fd_cornerCount : Int → Int} {F_fd_crossingCount : Int → Int} {F_fd_density : Int → Int} {F_fd_length : Int → Int} {F_fd_shift : Int → Int} {F_fd_pull : Int → Int} {F_fd_underlay : Int → Int} {F_fd_drawn : Int → Int} {F_pt_xs : Int → Int → Int} {F_pt_ys : Int → Int → Int} {F_pt_size : Int → Int} {ra_cells : Int → Int} {ra_cellCount : Int} {p1 : Int} {R0 : UInt32} {R_F_fd_crossings : Int → Int → Int} {R_F_fd_crossingCount : Int → Int} {R_F_fd_drawn : Int → Int} {R_F_pt_xs : Int → Int → Int} {R_F_pt_ys : Int → Int → Int} {R_F_pt_size : Int → Int} {R_ra_cells : Int → Int} {R_ra_cellCount : Int} (h_sp : σ0 0 = oC_sp ad sp_fieldCount sp_trimBound sp_planned) (h_sp_fields : σ0 1 = .inl (cF, 8, .inr (.inr (.inr (.inr (zFA ad nF)))))) (h_ra : σ0 10 = oC_ra ad ra_cellCount) (h_ra_cells : σ0 11 = .inl (cZ, 1024, .inl (zA ra_cells))) (h_FF : zFF ad cI nF σ0 F_fd_colour F_fd_layer F_fd_column F_fd_cornerXs F_fd_cornerYs F_fd_crossings F_fd_cornerCount F_fd_crossingCount F_fd_density F_fd_length F_fd_shift F_fd_pull F_fd_underlay F_fd_drawn F_pt_xs F_pt_ys F_pt_size) (hf : f_X6_covered sp_fieldCount F_fd_column F_fd_cornerXs F_fd_cornerYs F_fd_crossings F_fd_cornerCount F_fd_crossingCount F_fd_density F_fd_length F_fd_shift F_fd_pull F_fd_underlay F_fd_drawn F_pt_xs F_pt_ys F_pt_size ra_cells ra_cellCount nF p1 = some (0, R0, R_F_fd_crossings, R_F_fd_crossingCount, R_F_fd_drawn, R_F_pt_xs, R_F_pt_ys, R_F_pt_size, R_ra_cells, R_ra_cellCount)) :
    Met l yX6_covered (Cond.code yX6_covered cX6_covered 3 (some .float) :: wsL_law) rnX6_covered (zPre D ad N (zT cI cZ cF cL cD) σ0 sz [.ref (ad 0), .int (zI p1)]) (zQf D ad N sz (fun r σ' => r = R0 ∧ σ' 10 = oC_ra ad R_ra_cellCount ∧ σ' 11 = .inl (cZ, 1024, .inl (zA R_ra_cells)) ∧ zFF ad cI nF σ' F_fd_colour F_fd_layer F_fd_column F_fd_cornerXs F_fd_cornerYs R_F_fd_crossings F_fd_cornerCount R_F_fd_crossingCount F_fd_density F_fd_length F_fd_shift F_fd_pull F_fd_underlay R_F_fd_drawn R_F_pt_xs R_F_pt_ys R_F_pt_size ∧ ∀ i : Nat, i < 19 → i ≠ 10 → i ≠ 11 → σ' i = σ0 i)) 0 0 (zFr ad N sz) := by
  refine zMet hI (plainFor_of_name (by decide)) (Nat.le_of_ble_eq_true rfl) ⟨rfl, rfl⟩ ?_
  intro p e s m args below meth c Q hx hb hr hlocks hml hown hts hK hsz hQ hH hA ls hl
  subst hsz
  have hk_sp : 0 < N := by omega
  have hk_sp_fields : 1 < N := by omega
  have hk_ra : 10 < N := by omega
  have hk_ra_cells : 11 < N := by omega
  have hl : lv_has ls 3 [(0, .ref (ad 0)), (1, .int (zI p1))] := hl
  have hbg : ∀ i : Nat, i < 19 → i ≠ 10 → i ≠ 11 → σ0 i = σ0 i := fun _ _ _ _ => rfl
  unfold f_X6_covered at hf
  refine lv_aload_n hx hb dX6_covered_0 rfl (lv_at hl 0 rfl) ?_
  refine lv_iload_n hx hb dX6_covered_1 rfl (lv_at hl 1 rfl) ?_
  obtain ⟨t1, r2, k3, hf⟩ := zb2_some hf
  have ht9 : t1 = 0 := Classical.byContradiction (fun z => absurd (show t1 = 0 from congrArg Prod.fst (Option.some.inj ((if_pos z).symm.trans hf))) z)
  subst ht9
  replace hf := (if_neg (fun z => z rfl)).symm.trans hf
  refine zcVq (C := RX6) (As := [.int (zI p1)]) (rest := []) hx hb hml hown hts hl.1 hK hH hA (n_X6_fieldNumbered hI hN hNF  h_sp h_sp_fields k3) zk_t2_183 zk_t2_185 zk_s1_12 zk_t1_1 zk_t2_186 hd_X6_fieldNumbered rfl ⟨rfl, rfl, Nat.le_of_ble_eq_true rfl, Nat.le_of_ble_eq_true rfl⟩ ⟨Nat.zero_le _, Nat.zero_le _⟩ hk_sp h_sp rfl rfl rfl (Nat.le_of_ble_eq_true rfl) dX6_covered_2 (fun q5 σ4 Hσ4 lσ4 hp hH => ?_)
  obtain ⟨hr1, hs1⟩ := hp; subst hr1; rw [hs1] at hH
  refine lv_astore_n (lv' := [(2, .ref (ad (fB r2))), (0, .ref (ad 0)), (1, .int (zI p1))]) hx hb dX6_covered_5 rfl hl (by decide) rfl (fun ls hl => ?_)
  refine lv_aload_n hx hb dX6_covered_6 rfl (lv_at hl 0 rfl) ?_
  obtain ⟨k6, hf⟩ := zck_some hf
  obtain ⟨h_fd, h_fd_cornerXs, h_fd_cornerYs, h_fd_crossings, h_pt, h_pt_xs, h_pt_ys⟩ := h_FF r2 k6.1 k6.2
  refine zget hx hb inlX0 rfl 2 rfl zk_t3_96 hts hown hK hH (fB_lt hNF k6 0 (by decide)) h_fd rfl dX6_covered_7 ?_
  obtain ⟨k7, hf⟩ := zck_some hf
  refine lz_if_eq (tgt := 15) hx hb k7 dX6_covered_10 (by decide) (fun c8 => ?_) (fun c8 => ?_)
  · replace hf := (if_pos c8).symm.trans hf
    refine lv_aload_n hx hb dX6_covered_15 rfl (lv_at hl 1 rfl) ?_
    refine zget hx hb inlX6 rfl 3 rfl zk_t1_152 hts hown hK hH hk_sp h_sp rfl dX6_covered_16 ?_
    refine lv_aload_n hx hb dX6_covered_19 rfl (lv_at hl 0 rfl) ?_
    obtain ⟨k9, hf⟩ := zck_some hf
    obtain ⟨h_fd, h_fd_cornerXs, h_fd_cornerYs, h_fd_crossings, h_pt, h_pt_xs, h_pt_ys⟩ := h_FF r2 k9.1 k9.2
    obtain ⟨a10, u11, u12, a13, a14, u15, k16, hf⟩ := zb6_some hf
    refine zcVq (C := RX0) (As := []) (rest := [.ref (ad 10)]) hx hb hml hown hts hl.1 hK hH hA (c_X0_needlePoints hI hN ⟨fB_ge _, fB_le hNF k9⟩ h_fd h_fd_cornerXs h_fd_cornerYs h_fd_crossings h_pt h_pt_xs h_pt_ys k16) zk_t1_197 zk_t1_198 zk_t1_199 zk_t1_13 zk_t1_200 hd_X0_needlePoints rfl ⟨rfl, rfl, Nat.le_of_ble_eq_true rfl, Nat.le_of_ble_eq_true rfl⟩ ⟨Nat.zero_le _, Nat.zero_le _⟩ (fB_lt hNF k9 0 (by decide)) h_fd rfl rfl rfl (Nat.le_of_ble_eq_true rfl) dX6_covered_20 (fun q18 σ17 Hσ17 lσ17 hp hH => ?_)
    obtain ⟨hr1, h_fd, h_fd_crossings, h_pt, h_pt_xs, h_pt_ys, hn⟩ := hp
    subst hr1
    obtain ⟨b19, eb19, hf⟩ := zlt_some hf
    obtain ⟨b20, eb20, hf⟩ := zlt_some hf
    obtain ⟨b21, eb21, hf⟩ := zlt_some hf
    obtain ⟨b22, eb22, hf⟩ := zlt_some hf
    obtain ⟨b23, eb23, hf⟩ := zlt_some hf
    obtain ⟨b24, eb24, hf⟩ := zlt_some hf
    have h_FF : zFF ad cI nF σ17 F_fd_colour F_fd_layer F_fd_column F_fd_cornerXs F_fd_cornerYs b19 F_fd_cornerCount b20 F_fd_density F_fd_length F_fd_shift F_fd_pull F_fd_underlay b21 b22 b23 b24 := zFF_upd (x := r2) k9.1 (fun i h46 hi => hn i (by omega) (by omega) (by omega) (by omega) (by omega)) h_FF (fun _ _ => rfl) (fun _ _ => rfl) (fun _ _ => rfl) (fun _ _ => rfl) (fun _ _ => rfl) (fun z hz => by rw [eb19]; exact zup_n hz) (fun _ _ => rfl) (fun z hz => by rw [eb20]; exact zup_n hz) (fun _ _ => rfl) (fun _ _ => rfl) (fun _ _ => rfl) (fun _ _ => rfl) (fun _ _ => rfl) (fun z hz => by rw [eb21]; exact zup_n hz) (fun z hz => by rw [eb22]; exact zup_n hz) (fun z hz => by rw [eb23]; exact zup_n hz) (fun z hz => by rw [eb24]; exact zup_n hz) (by (try simp only [eb19, eb20, eb21, eb22, eb23, eb24, zup_s]); exact h_fd) (by (try simp only [eb19, eb20, eb21, eb22, eb23, eb24, zup_s]); exact (hn (fB r2 + 1) (by omega) (by omega) (by omega) (by omega) (by omega)).trans h_fd_cornerXs) (by (try simp only [eb19, eb20, eb21, eb22, eb23, eb24, zup_s]); exact (hn (fB r2 + 2) (by omega) (by omega) (by omega) (by omega) (by omega)).trans h_fd_cornerYs) (by (try simp only [eb19, eb20, eb21, eb22, eb23, eb24, zup_s]); exact h_fd_crossings) (by (try simp only [eb19, eb20, eb21, eb22, eb23, eb24, zup_s]); exact h_pt) (by (try simp only [eb19, eb20, eb21, eb22, eb23, eb24, zup_s]); exact h_pt_xs) (by (try simp only [eb19, eb20, eb21, eb22, eb23, eb24, zup_s]); exact h_pt_ys)
    have h_sp := (hn 0 (by have := fB_ge r2; omega) (by have := fB_ge r2; omega) (by have := fB_ge r2; omega) (by have := fB_ge r2; omega) (by have := fB_ge r2; omega)).trans h_sp
    have h_sp_fields := (hn 1 (by have := fB_ge r2; omega) (by have := fB_ge r2; omega) (by have := fB_ge r2; omega) (by have := fB_ge r2; omega) (by have := fB_ge r2; omega)).trans h_sp_fields
    have h_ra := (hn 10 (by have := fB_ge r2; omega) (by have := fB_ge r2; omega) (by have := fB_ge r2; omega) (by have := fB_ge r2; omega) (by have := fB_ge r2; omega)).trans h_ra
    have h_ra_cells := (hn 11 (by have := fB_ge r2; omega) (by have := fB_ge r2; omega) (by have := fB_ge r2; omega) (by have := fB_ge r2; omega) (by have := fB_ge r2; omega)).trans h_ra_cells
    have hbg : ∀ i : Nat, i < 19 → i ≠ 10 → i ≠ 11 → σ17 i = σ0 i := fun i h46 a0 a1 => (hn i (by have := fB_ge r2; omega) (by have := fB_ge r2; omega) (by have := fB_ge r2; omega) (by have := fB_ge r2; omega) (by have := fB_ge r2; omega)).trans (hbg i h46 a0 a1)
    obtain ⟨k25, hf⟩ := zck_some hf
    obtain ⟨h_fd, h_fd_cornerXs, h_fd_cornerYs, h_fd_crossings, h_pt, h_pt_xs, h_pt_ys⟩ := h_FF r2 k25.1 k25.2
    obtain ⟨a26, u27, k28, hf⟩ := zb2_some hf
    refine zcVv (C := RX5) (As := [.ref (ad (fB r2 + 4))]) (rest := []) hx hb hml hown hts hl.1 hK hH hA (c_X5_walk hI hN ⟨fB_ge _, fB_le hNF k25⟩ h_pt h_pt_xs h_pt_ys h_ra h_ra_cells k28) zk_t2_188 zk_t2_189 zk_t2_190 zk_t1_3 zk_t2_191 hd_X5_walk rfl ⟨rfl, rfl, Nat.le_of_ble_eq_true rfl, Nat.le_of_ble_eq_true rfl⟩ ⟨Nat.zero_le _, Nat.zero_le _⟩ hk_ra h_ra rfl rfl rfl (Nat.le_of_ble_eq_true rfl) dX6_covered_23 (fun σ29 Hσ29 lσ29 hp hH => ?_)
    obtain ⟨h_ra, h_ra_cells, hn⟩ := hp
    have h_sp := (hn 0 (by decide) (by decide)).trans h_sp
    have h_sp_fields := (hn 1 (by decide) (by decide)).trans h_sp_fields
    have h_FF := zFF_keep (fun i hi => hn i (by omega) (by omega)) h_FF
    have hbg : ∀ i : Nat, i < 19 → i ≠ 10 → i ≠ 11 → σ29 i = σ0 i := fun i h46 a0 a1 => (hn i a0 a1).trans (hbg i h46 a0 a1)
    refine lv_aload_n hx hb dX6_covered_26 rfl (lv_at hl 1 rfl) ?_
    refine zget hx hb inlX6 rfl 3 rfl zk_t1_152 hts hown hK hH hk_sp h_sp rfl dX6_covered_27 ?_
    refine lv_aload_n hx hb dX6_covered_30 rfl (lv_at hl 0 rfl) ?_
    obtain ⟨k30, hf⟩ := zck_some hf
    obtain ⟨h_fd, h_fd_cornerXs, h_fd_cornerYs, h_fd_crossings, h_pt, h_pt_xs, h_pt_ys⟩ := h_FF r2 k30.1 k30.2
    obtain ⟨r31, a32, u33, k34, hf⟩ := zb3_some hf
    refine zcVf (C := RX5) (As := [.ref (ad (fB r2))]) (rest := []) hx hb hml hown hts hl.1 hK hH hA (c_X5_partCovered hI hN ⟨fB_ge _, fB_le hNF k30⟩ h_fd h_fd_cornerXs h_fd_cornerYs h_fd_crossings h_ra h_ra_cells k34) zk_t3_190 zk_t3_191 zk_t3_192 zk_t1_3 zk_t3_193 hd_X5_partCovered rfl ⟨rfl, rfl, Nat.le_of_ble_eq_true rfl, Nat.le_of_ble_eq_true rfl⟩ ⟨Nat.zero_le _, Nat.zero_le _⟩ hk_ra h_ra rfl rfl rfl (Nat.le_of_ble_eq_true rfl) dX6_covered_31 (fun q36 σ35 Hσ35 lσ35 hp hH => ?_)
    obtain ⟨hr1, h_fd, h_fd_crossings, hn⟩ := hp
    subst hr1
    obtain ⟨b37, eb37, hf⟩ := zlt_some hf
    obtain ⟨b38, eb38, hf⟩ := zlt_some hf
    have h_FF : zFF ad cI nF σ35 F_fd_colour F_fd_layer F_fd_column F_fd_cornerXs F_fd_cornerYs b37 F_fd_cornerCount b38 F_fd_density F_fd_length F_fd_shift F_fd_pull F_fd_underlay b21 b22 b23 b24 := zFF_upd (x := r2) k30.1 (fun i h46 hi => hn i (by omega) (by omega)) h_FF (fun _ _ => rfl) (fun _ _ => rfl) (fun _ _ => rfl) (fun _ _ => rfl) (fun _ _ => rfl) (fun z hz => by rw [eb37]; exact zup_n hz) (fun _ _ => rfl) (fun z hz => by rw [eb38]; exact zup_n hz) (fun _ _ => rfl) (fun _ _ => rfl) (fun _ _ => rfl) (fun _ _ => rfl) (fun _ _ => rfl) (fun _ _ => rfl) (fun _ _ => rfl) (fun _ _ => rfl) (fun _ _ => rfl) (by (try simp only [eb37, eb38, zup_s]); exact h_fd) (by (try simp only [eb37, eb38, zup_s]); exact (hn (fB r2 + 1) (by omega) (by omega)).trans h_fd_cornerXs) (by (try simp only [eb37, eb38, zup_s]); exact (hn (fB r2 + 2) (by omega) (by omega)).trans h_fd_cornerYs) (by (try simp only [eb37, eb38, zup_s]); exact h_fd_crossings) (by (try simp only [eb37, eb38, zup_s]); exact (hn (fB r2 + 4) (by omega) (by omega)).trans h_pt) (by (try simp only [eb37, eb38, zup_s]); exact (hn (fB r2 + 5) (by omega) (by omega)).trans h_pt_xs) (by (try simp only [eb37, eb38, zup_s]); exact (hn (fB r2 + 6) (by omega) (by omega)).trans h_pt_ys)
    have h_sp := (hn 0 (by have := fB_ge r2; omega) (by have := fB_ge r2; omega)).trans h_sp
    have h_sp_fields := (hn 1 (by have := fB_ge r2; omega) (by have := fB_ge r2; omega)).trans h_sp_fields
    have h_ra := (hn 10 (by have := fB_ge r2; omega) (by have := fB_ge r2; omega)).trans h_ra
    have h_ra_cells := (hn 11 (by have := fB_ge r2; omega) (by have := fB_ge r2; omega)).trans h_ra_cells
    have hbg : ∀ i : Nat, i < 19 → i ≠ 10 → i ≠ 11 → σ35 i = σ0 i := fun i h46 a0 a1 => (hn i (by have := fB_ge r2; omega) (by have := fB_ge r2; omega)).trans (hbg i h46 a0 a1)
    cases hf
    exact zretf hx hb hr hlocks hQ hH ⟨rfl, h_ra, h_ra_cells, h_FF, hbg⟩ dX6_covered_34
  · replace hf := (if_neg c8).symm.trans hf
    refine lv_fconst0 hx hb dX6_covered_13 ?_
    cases hf
    exact zretf hx hb hr hlocks hQ hH ⟨rfl, h_ra, h_ra_cells, h_FF, hbg⟩ dX6_covered_14
abbrev rnX6_touched : Room := { frames := 7, cells := 0, slots := 0, locals := 114 }
set_option maxHeartbeats 4000000 in
set_option maxRecDepth 100000 in
theorem n_X6_touched {l : Launch} {D : va_G} {cI cZ cF cL cD : ClassId} {ad : Nat → Nat} {N : Nat} (hI : ∀ i j, i < N → j < N → ad i = ad j → i = j) (hN : 19 ≤ N) {nF : Int} (hNF : N = 19 + 7 * nF.toNat) {σ0 : Nat → va_E} {sz : Nat} {sp_fieldCount : Int} {sp_trimBound : Int} {sp_planned : Int} {F_fd_colour : Int → Int} {F_fd_layer : Int → Int} {F_fd_column : Int → Int} {F_fd_cornerXs : Int → Int → Int} {F_fd_cornerYs : Int → Int → Int} {F_fd_crossings : Int → Int → Int} {F_fd_cornerCount : Int → Int} {F_fd_crossingCount : Int → Int} {F_fd_density : Int → Int} {F_fd_length : Int → Int} {F_fd_shift : Int → Int} {F_fd_pull : Int → Int} {F_fd_underlay : Int → Int} {F_fd_drawn : Int → Int} {F_pt_xs : Int → Int → Int} {F_pt_ys : Int → Int → Int} {F_pt_size : Int → Int} {ra_cells : Int → Int} {ra_cellCount : Int} {p1 : Int} {R0 : Int} {R_F_fd_crossings : Int → Int → Int} {R_F_fd_crossingCount : Int → Int} {R_F_fd_drawn : Int → Int} {R_F_pt_xs : Int → Int → Int} {R_F_pt_ys : Int → Int → Int} {R_F_pt_size : Int → Int} {R_ra_cells : Int → Int} {R_ra_cellCount : Int} (h_sp : σ0 0 = oC_sp ad sp_fieldCount sp_trimBound sp_planned) (h_sp_fields : σ0 1 = .inl (cF, 8, .inr (.inr (.inr (.inr (zFA ad nF)))))) (h_ra : σ0 10 = oC_ra ad ra_cellCount) (h_ra_cells : σ0 11 = .inl (cZ, 1024, .inl (zA ra_cells))) (h_FF : zFF ad cI nF σ0 F_fd_colour F_fd_layer F_fd_column F_fd_cornerXs F_fd_cornerYs F_fd_crossings F_fd_cornerCount F_fd_crossingCount F_fd_density F_fd_length F_fd_shift F_fd_pull F_fd_underlay F_fd_drawn F_pt_xs F_pt_ys F_pt_size) (hf : f_X6_touched sp_fieldCount F_fd_column F_fd_cornerXs F_fd_cornerYs F_fd_crossings F_fd_cornerCount F_fd_crossingCount F_fd_density F_fd_length F_fd_shift F_fd_pull F_fd_underlay F_fd_drawn F_pt_xs F_pt_ys F_pt_size ra_cells ra_cellCount nF p1 = some (0, R0, R_F_fd_crossings, R_F_fd_crossingCount, R_F_fd_drawn, R_F_pt_xs, R_F_pt_ys, R_F_pt_size, R_ra_cells, R_ra_cellCount)) :
    Met l yX6_touched (Cond.code yX6_touched cX6_touched 3 (some .int) :: wsL_law) rnX6_touched (zPre D ad N (zT cI cZ cF cL cD) σ0 sz [.ref (ad 0), .int (zI p1)]) (zQi D ad N sz (fun r σ' => r = zI R0 ∧ σ' 10 = oC_ra ad R_ra_cellCount ∧ σ' 11 = .inl (cZ, 1024, .inl (zA R_ra_cells)) ∧ zFF ad cI nF σ' F_fd_colour F_fd_layer F_fd_column F_fd_cornerXs F_fd_cornerYs R_F_fd_crossings F_fd_cornerCount R_F_fd_crossingCount F_fd_density F_fd_length F_fd_shift F_fd_pull F_fd_underlay R_F_fd_drawn R_F_pt_xs R_F_pt_ys R_F_pt_size ∧ ∀ i : Nat, i < 19 → i ≠ 10 → i ≠ 11 → σ' i = σ0 i)) 0 0 (zFr ad N sz) := by
  refine zMet hI (plainFor_of_name (by decide)) (Nat.le_of_ble_eq_true rfl) ⟨rfl, rfl⟩ ?_
  intro p e s m args below meth c Q hx hb hr hlocks hml hown hts hK hsz hQ hH hA ls hl
  subst hsz
  have hk_sp : 0 < N := by omega
  have hk_sp_fields : 1 < N := by omega
  have hk_ra : 10 < N := by omega
  have hk_ra_cells : 11 < N := by omega
  have hl : lv_has ls 3 [(0, .ref (ad 0)), (1, .int (zI p1))] := hl
  have hbg : ∀ i : Nat, i < 19 → i ≠ 10 → i ≠ 11 → σ0 i = σ0 i := fun _ _ _ _ => rfl
  unfold f_X6_touched at hf
  refine lv_aload_n hx hb dX6_touched_0 rfl (lv_at hl 0 rfl) ?_
  refine lv_iload_n hx hb dX6_touched_1 rfl (lv_at hl 1 rfl) ?_
  obtain ⟨t1, r2, k3, hf⟩ := zb2_some hf
  have ht9 : t1 = 0 := Classical.byContradiction (fun z => absurd (show t1 = 0 from congrArg Prod.fst (Option.some.inj ((if_pos z).symm.trans hf))) z)
  subst ht9
  replace hf := (if_neg (fun z => z rfl)).symm.trans hf
  refine zcVq (C := RX6) (As := [.int (zI p1)]) (rest := []) hx hb hml hown hts hl.1 hK hH hA (n_X6_fieldNumbered hI hN hNF  h_sp h_sp_fields k3) zk_t2_183 zk_t2_185 zk_s1_12 zk_t1_1 zk_t2_186 hd_X6_fieldNumbered rfl ⟨rfl, rfl, Nat.le_of_ble_eq_true rfl, Nat.le_of_ble_eq_true rfl⟩ ⟨Nat.zero_le _, Nat.zero_le _⟩ hk_sp h_sp rfl rfl rfl (Nat.le_of_ble_eq_true rfl) dX6_touched_2 (fun q5 σ4 Hσ4 lσ4 hp hH => ?_)
  obtain ⟨hr1, hs1⟩ := hp; subst hr1; rw [hs1] at hH
  refine lv_astore_n (lv' := [(2, .ref (ad (fB r2))), (0, .ref (ad 0)), (1, .int (zI p1))]) hx hb dX6_touched_5 rfl hl (by decide) rfl (fun ls hl => ?_)
  refine lv_aload_n hx hb dX6_touched_6 rfl (lv_at hl 1 rfl) ?_
  refine zget hx hb inlX6 rfl 3 rfl zk_t1_152 hts hown hK hH hk_sp h_sp rfl dX6_touched_7 ?_
  refine lv_aload_n hx hb dX6_touched_10 rfl (lv_at hl 0 rfl) ?_
  obtain ⟨k6, hf⟩ := zck_some hf
  obtain ⟨h_fd, h_fd_cornerXs, h_fd_cornerYs, h_fd_crossings, h_pt, h_pt_xs, h_pt_ys⟩ := h_FF r2 k6.1 k6.2
  obtain ⟨a7, u8, u9, a10, a11, u12, k13, hf⟩ := zb6_some hf
  refine zcVq (C := RX0) (As := []) (rest := [.ref (ad 10)]) hx hb hml hown hts hl.1 hK hH hA (c_X0_needlePoints hI hN ⟨fB_ge _, fB_le hNF k6⟩ h_fd h_fd_cornerXs h_fd_cornerYs h_fd_crossings h_pt h_pt_xs h_pt_ys k13) zk_t1_197 zk_t1_198 zk_t1_199 zk_t1_13 zk_t1_200 hd_X0_needlePoints rfl ⟨rfl, rfl, Nat.le_of_ble_eq_true rfl, Nat.le_of_ble_eq_true rfl⟩ ⟨Nat.zero_le _, Nat.zero_le _⟩ (fB_lt hNF k6 0 (by decide)) h_fd rfl rfl rfl (Nat.le_of_ble_eq_true rfl) dX6_touched_11 (fun q15 σ14 Hσ14 lσ14 hp hH => ?_)
  obtain ⟨hr1, h_fd, h_fd_crossings, h_pt, h_pt_xs, h_pt_ys, hn⟩ := hp
  subst hr1
  obtain ⟨b16, eb16, hf⟩ := zlt_some hf
  obtain ⟨b17, eb17, hf⟩ := zlt_some hf
  obtain ⟨b18, eb18, hf⟩ := zlt_some hf
  obtain ⟨b19, eb19, hf⟩ := zlt_some hf
  obtain ⟨b20, eb20, hf⟩ := zlt_some hf
  obtain ⟨b21, eb21, hf⟩ := zlt_some hf
  have h_FF : zFF ad cI nF σ14 F_fd_colour F_fd_layer F_fd_column F_fd_cornerXs F_fd_cornerYs b16 F_fd_cornerCount b17 F_fd_density F_fd_length F_fd_shift F_fd_pull F_fd_underlay b18 b19 b20 b21 := zFF_upd (x := r2) k6.1 (fun i h46 hi => hn i (by omega) (by omega) (by omega) (by omega) (by omega)) h_FF (fun _ _ => rfl) (fun _ _ => rfl) (fun _ _ => rfl) (fun _ _ => rfl) (fun _ _ => rfl) (fun z hz => by rw [eb16]; exact zup_n hz) (fun _ _ => rfl) (fun z hz => by rw [eb17]; exact zup_n hz) (fun _ _ => rfl) (fun _ _ => rfl) (fun _ _ => rfl) (fun _ _ => rfl) (fun _ _ => rfl) (fun z hz => by rw [eb18]; exact zup_n hz) (fun z hz => by rw [eb19]; exact zup_n hz) (fun z hz => by rw [eb20]; exact zup_n hz) (fun z hz => by rw [eb21]; exact zup_n hz) (by (try simp only [eb16, eb17, eb18, eb19, eb20, eb21, zup_s]); exact h_fd) (by (try simp only [eb16, eb17, eb18, eb19, eb20, eb21, zup_s]); exact (hn (fB r2 + 1) (by omega) (by omega) (by omega) (by omega) (by omega)).trans h_fd_cornerXs) (by (try simp only [eb16, eb17, eb18, eb19, eb20, eb21, zup_s]); exact (hn (fB r2 + 2) (by omega) (by omega) (by omega) (by omega) (by omega)).trans h_fd_cornerYs) (by (try simp only [eb16, eb17, eb18, eb19, eb20, eb21, zup_s]); exact h_fd_crossings) (by (try simp only [eb16, eb17, eb18, eb19, eb20, eb21, zup_s]); exact h_pt) (by (try simp only [eb16, eb17, eb18, eb19, eb20, eb21, zup_s]); exact h_pt_xs) (by (try simp only [eb16, eb17, eb18, eb19, eb20, eb21, zup_s]); exact h_pt_ys)
  have h_sp := (hn 0 (by have := fB_ge r2; omega) (by have := fB_ge r2; omega) (by have := fB_ge r2; omega) (by have := fB_ge r2; omega) (by have := fB_ge r2; omega)).trans h_sp
  have h_sp_fields := (hn 1 (by have := fB_ge r2; omega) (by have := fB_ge r2; omega) (by have := fB_ge r2; omega) (by have := fB_ge r2; omega) (by have := fB_ge r2; omega)).trans h_sp_fields
  have h_ra := (hn 10 (by have := fB_ge r2; omega) (by have := fB_ge r2; omega) (by have := fB_ge r2; omega) (by have := fB_ge r2; omega) (by have := fB_ge r2; omega)).trans h_ra
  have h_ra_cells := (hn 11 (by have := fB_ge r2; omega) (by have := fB_ge r2; omega) (by have := fB_ge r2; omega) (by have := fB_ge r2; omega) (by have := fB_ge r2; omega)).trans h_ra_cells
  have hbg : ∀ i : Nat, i < 19 → i ≠ 10 → i ≠ 11 → σ14 i = σ0 i := fun i h46 a0 a1 => (hn i (by have := fB_ge r2; omega) (by have := fB_ge r2; omega) (by have := fB_ge r2; omega) (by have := fB_ge r2; omega) (by have := fB_ge r2; omega)).trans (hbg i h46 a0 a1)
  obtain ⟨k22, hf⟩ := zck_some hf
  obtain ⟨h_fd, h_fd_cornerXs, h_fd_cornerYs, h_fd_crossings, h_pt, h_pt_xs, h_pt_ys⟩ := h_FF r2 k22.1 k22.2
  obtain ⟨a23, u24, k25, hf⟩ := zb2_some hf
  refine zcVv (C := RX5) (As := [.ref (ad (fB r2 + 4))]) (rest := []) hx hb hml hown hts hl.1 hK hH hA (c_X5_walk hI hN ⟨fB_ge _, fB_le hNF k22⟩ h_pt h_pt_xs h_pt_ys h_ra h_ra_cells k25) zk_t2_188 zk_t2_189 zk_t2_190 zk_t1_3 zk_t2_191 hd_X5_walk rfl ⟨rfl, rfl, Nat.le_of_ble_eq_true rfl, Nat.le_of_ble_eq_true rfl⟩ ⟨Nat.zero_le _, Nat.zero_le _⟩ hk_ra h_ra rfl rfl rfl (Nat.le_of_ble_eq_true rfl) dX6_touched_14 (fun σ26 Hσ26 lσ26 hp hH => ?_)
  obtain ⟨h_ra, h_ra_cells, hn⟩ := hp
  have h_sp := (hn 0 (by decide) (by decide)).trans h_sp
  have h_sp_fields := (hn 1 (by decide) (by decide)).trans h_sp_fields
  have h_FF := zFF_keep (fun i hi => hn i (by omega) (by omega)) h_FF
  have hbg : ∀ i : Nat, i < 19 → i ≠ 10 → i ≠ 11 → σ26 i = σ0 i := fun i h46 a0 a1 => (hn i a0 a1).trans (hbg i h46 a0 a1)
  refine lv_aload_n hx hb dX6_touched_17 rfl (lv_at hl 1 rfl) ?_
  refine zget hx hb inlX6 rfl 3 rfl zk_t1_152 hts hown hK hH hk_sp h_sp rfl dX6_touched_18 ?_
  refine zget hx hb inlX5 rfl 1 rfl zk_t1_82 hts hown hK hH hk_ra h_ra rfl dX6_touched_21 ?_
  cases hf
  exact zreti hx hb hr hlocks hQ hH ⟨rfl, h_ra, h_ra_cells, h_FF, hbg⟩ dX6_touched_24
abbrev rnX6_byteAt : Room := { frames := 6, cells := 0, slots := 0, locals := 92 }
set_option maxHeartbeats 4000000 in
set_option maxRecDepth 100000 in
theorem n_X6_byteAt {l : Launch} {D : va_G} {cI cZ cF cL cD : ClassId} {ad : Nat → Nat} {N : Nat} (hI : ∀ i j, i < N → j < N → ad i = ad j → i = j) (hN : 19 ≤ N) {σ0 : Nat → va_E} {sz : Nat} {sp_fieldCount : Int} {sp_trimBound : Int} {sp_planned : Int} {pa_bytes : Int → Int} {pa_size : Int} {pa_format : Int} {pa_faultPlace : Int} {pa_stitchesRead : Int} {p1 : Int} {R0 : Int} (h_sp : σ0 0 = oC_sp ad sp_fieldCount sp_trimBound sp_planned) (h_pa : σ0 12 = oC_pa ad pa_size pa_format pa_faultPlace pa_stitchesRead) (h_pa_bytes : σ0 13 = .inl (cI, 49924, .inl (zA pa_bytes))) (hf : f_X6_byteAt pa_bytes pa_size p1 = some (0, R0)) :
    Met l yX6_byteAt (Cond.code yX6_byteAt cX6_byteAt 2 (some .int) :: wsL_law) rnX6_byteAt (zPre D ad N (zT cI cZ cF cL cD) σ0 sz [.ref (ad 0), .int (zI p1)]) (zQi D ad N sz (fun r σ' => r = zI R0 ∧ σ' = σ0)) 0 0 (zFr ad N sz) := by
  refine zMet hI (plainFor_of_name (by decide)) (Nat.le_of_ble_eq_true rfl) ⟨rfl, rfl⟩ ?_
  intro p e s m args below meth c Q hx hb hr hlocks hml hown hts hK hsz hQ hH hA ls hl
  subst hsz
  have hk_sp : 0 < N := by omega
  have hk_pa : 12 < N := by omega
  have hk_pa_bytes : 13 < N := by omega
  have hl : lv_has ls 2 [(0, .ref (ad 0)), (1, .int (zI p1))] := hl
  have hbg : σ0 = σ0 := rfl
  unfold f_X6_byteAt at hf
  refine lv_aload_n hx hb dX6_byteAt_0 rfl (lv_at hl 0 rfl) ?_
  refine zget hx hb inlX6 rfl 4 rfl zk_t1_153 hts hown hK hH hk_sp h_sp rfl dX6_byteAt_1 ?_
  refine lv_iload_n hx hb dX6_byteAt_4 rfl (lv_at hl 1 rfl) ?_
  obtain ⟨r1, k2, hf⟩ := zb1_some hf
  refine zcVi (C := RX2) (As := [.int (zI p1)]) (rest := []) hx hb hml hown hts hl.1 hK hH hA (c_X2_has hI hN  h_pa h_pa_bytes k2) zk_t2_208 zk_t2_209 zk_t2_210 zk_t1_4 zk_t2_211 hd_X2_has rfl ⟨rfl, rfl, Nat.le_of_ble_eq_true rfl, Nat.le_of_ble_eq_true rfl⟩ ⟨Nat.zero_le _, Nat.zero_le _⟩ hk_pa h_pa rfl rfl rfl (Nat.le_of_ble_eq_true rfl) dX6_byteAt_5 (fun q4 σ3 Hσ3 lσ3 hp hH => ?_)
  obtain ⟨hr1, hs1⟩ := hp; subst hr1; rw [hs1] at hH
  obtain ⟨k5, hf⟩ := zck_some hf
  refine lz_if_ne (tgt := 21) hx hb k5 dX6_byteAt_8 (by decide) (fun c6 => ?_) (fun c6 => ?_)
  · replace hf := (if_neg c6).symm.trans hf
    refine lv_aload_n hx hb dX6_byteAt_21 rfl (lv_at hl 0 rfl) ?_
    refine zget hx hb inlX6 rfl 4 rfl zk_t1_153 hts hown hK hH hk_sp h_sp rfl dX6_byteAt_22 ?_
    refine zget hx hb inlX2 rfl 0 rfl zk_t1_96 hts hown hK hH hk_pa h_pa rfl dX6_byteAt_25 ?_
    refine lv_iload_n hx hb dX6_byteAt_28 rfl (lv_at hl 1 rfl) ?_
    obtain ⟨k7, hf⟩ := zck_some hf
    refine ziald hx hb hK hH hk_pa_bytes 0 h_pa_bytes rfl k7 rfl dX6_byteAt_29 ?_
    cases hf
    exact zreti hx hb hr hlocks hQ hH ⟨rfl, hbg⟩ dX6_byteAt_30
  · replace hf := (if_pos c6).symm.trans hf
    exact absurd (show (3 : Int) = 0 from congrArg Prod.fst (Option.some.inj hf)) (by decide)
abbrev rnX6_sewn : Room := { frames := 6, cells := 0, slots := 0, locals := 92 }
set_option maxHeartbeats 4000000 in
set_option maxRecDepth 100000 in
theorem n_X6_sewn {l : Launch} {D : va_G} {cI cZ cF cL cD : ClassId} {ad : Nat → Nat} {N : Nat} (hI : ∀ i j, i < N → j < N → ad i = ad j → i = j) (hN : 19 ≤ N) {σ0 : Nat → va_E} {sz : Nat} {sp_fieldCount : Int} {sp_trimBound : Int} {sp_planned : Int} {ma_broken : Int → Int} {ma_brokeAt : Int → Int} {ma_stitches : Int → Int} {ma_headCount : Int} {ma_late : Int} {ma_commandCount : Int} {ma_place : Int} {p1 : Int} {R0 : Int} (h_sp : σ0 0 = oC_sp ad sp_fieldCount sp_trimBound sp_planned) (h_ma : σ0 14 = oC_ma ad ma_headCount ma_late ma_commandCount ma_place) (h_ma_broken : σ0 16 = .inl (cZ, 4, .inl (zA ma_broken))) (h_ma_brokeAt : σ0 17 = .inl (cI, 4, .inl (zA ma_brokeAt))) (h_ma_stitches : σ0 18 = .inl (cI, 4, .inl (zA ma_stitches))) (hf : f_X6_sewn ma_stitches ma_headCount p1 = some (0, R0)) :
    Met l yX6_sewn (Cond.code yX6_sewn cX6_sewn 2 (some .int) :: wsL_law) rnX6_sewn (zPre D ad N (zT cI cZ cF cL cD) σ0 sz [.ref (ad 0), .int (zI p1)]) (zQi D ad N sz (fun r σ' => r = zI R0 ∧ σ' = σ0)) 0 0 (zFr ad N sz) := by
  refine zMet hI (plainFor_of_name (by decide)) (Nat.le_of_ble_eq_true rfl) ⟨rfl, rfl⟩ ?_
  intro p e s m args below meth c Q hx hb hr hlocks hml hown hts hK hsz hQ hH hA ls hl
  subst hsz
  have hk_sp : 0 < N := by omega
  have hk_ma : 14 < N := by omega
  have hk_ma_broken : 16 < N := by omega
  have hk_ma_brokeAt : 17 < N := by omega
  have hk_ma_stitches : 18 < N := by omega
  have hl : lv_has ls 2 [(0, .ref (ad 0)), (1, .int (zI p1))] := hl
  have hbg : σ0 = σ0 := rfl
  unfold f_X6_sewn at hf
  refine lv_aload_n hx hb dX6_sewn_0 rfl (lv_at hl 0 rfl) ?_
  refine zget hx hb inlX6 rfl 5 rfl zk_t1_154 hts hown hK hH hk_sp h_sp rfl dX6_sewn_1 ?_
  refine lv_iload_n hx hb dX6_sewn_4 rfl (lv_at hl 1 rfl) ?_
  obtain ⟨r1, k2, hf⟩ := zb1_some hf
  refine zcVi (C := RX1) (As := [.int (zI p1)]) (rest := []) hx hb hml hown hts hl.1 hK hH hA (c_X1_has hI hN  h_ma h_ma_broken h_ma_brokeAt h_ma_stitches k2) zk_t2_218 zk_t2_219 zk_t2_220 zk_t1_5 zk_t2_221 hd_X1_has rfl ⟨rfl, rfl, Nat.le_of_ble_eq_true rfl, Nat.le_of_ble_eq_true rfl⟩ ⟨Nat.zero_le _, Nat.zero_le _⟩ hk_ma h_ma rfl rfl rfl (Nat.le_of_ble_eq_true rfl) dX6_sewn_5 (fun q4 σ3 Hσ3 lσ3 hp hH => ?_)
  obtain ⟨hr1, hs1⟩ := hp; subst hr1; rw [hs1] at hH
  obtain ⟨k5, hf⟩ := zck_some hf
  refine lz_if_ne (tgt := 21) hx hb k5 dX6_sewn_8 (by decide) (fun c6 => ?_) (fun c6 => ?_)
  · replace hf := (if_neg c6).symm.trans hf
    refine lv_aload_n hx hb dX6_sewn_21 rfl (lv_at hl 0 rfl) ?_
    refine zget hx hb inlX6 rfl 5 rfl zk_t1_154 hts hown hK hH hk_sp h_sp rfl dX6_sewn_22 ?_
    refine zget hx hb inlX1 rfl 3 rfl zk_t1_126 hts hown hK hH hk_ma h_ma rfl dX6_sewn_25 ?_
    refine lv_iload_n hx hb dX6_sewn_28 rfl (lv_at hl 1 rfl) ?_
    obtain ⟨k7, hf⟩ := zck_some hf
    refine ziald hx hb hK hH hk_ma_stitches 0 h_ma_stitches rfl k7 rfl dX6_sewn_29 ?_
    cases hf
    exact zreti hx hb hr hlocks hQ hH ⟨rfl, hbg⟩ dX6_sewn_30
  · replace hf := (if_pos c6).symm.trans hf
    exact absurd (show (3 : Int) = 0 from congrArg Prod.fst (Option.some.inj hf)) (by decide)
