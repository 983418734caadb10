def f_L_corner (sp_fieldCount : Int) (sp_planned : Int) (F_fd_column : Int → Int) (F_fd_cornerXs : Int → Int → Int) (F_fd_cornerYs : Int → Int → Int) (F_fd_cornerCount : Int → Int) (F_fd_drawn : Int → Int) (nF : Int) (p1 : Int) (p2 : Int) (p3 : Int) (lw_out : Int) : Option (Int × Int × (Int → Int → Int) × (Int → Int → Int) × (Int → Int) × (Int → Int) × Int) :=
  zb7 (f_X6_corner sp_fieldCount sp_planned F_fd_column F_fd_cornerXs F_fd_cornerYs F_fd_cornerCount F_fd_drawn nF p1 p2 p3) fun t r u0 u1 u2 u3 u4 =>
  if ¬ t = 0 then
    if t = 3 then some (1, u0, u1, u2, u3, u4, lw_out) else if t = 1 then some (2, u0, u1, u2, u3, u4, lw_out) else if t = 2 then some (3, u0, u1, u2, u3, u4, lw_out) else none
  else
    some (0, u0, u1, u2, u3, u4, r)
abbrev rmL_corner : Room := { frames := 8, cells := 2, slots := 12, locals := 138 }
theorem hd_L_corner : yL_corner.cls ≠ "java/lang/invoke/MethodHandle" ∧ yL_corner.cls ≠ "java/lang/invoke/VarHandle" ∧ (parseMethodDescriptor yL_corner.desc).map (fun d => d.parameters.length) = some 5 := by decide +kernel
set_option maxHeartbeats 4000000 in
set_option maxRecDepth 100000 in
theorem c_L_corner {l : Launch} {D : va_G} {cI cZ cF cL cD : ClassId} {ad : Nat → Nat} {N : Nat} (hI : ∀ i j, i < N → j < N → ad i = ad j → i = j) (hN : 46 ≤ N) {nF : Int} (hNF : N = 46 + 7 * nF.toNat) (hst : l.stackTraces = false) {σ0 : Nat → va_E} {sz : Nat} {sp_fieldCount : Int} {sp_trimBound : Int} {sp_planned : Int} {F_fd_colour : Int → Int} {F_fd_layer : Int → Int} {F_fd_column : Int → Int} {F_fd_cornerXs : Int → Int → Int} {F_fd_cornerYs : Int → Int → Int} {F_fd_crossings : Int → Int → Int} {F_fd_cornerCount : Int → Int} {F_fd_crossingCount : Int → Int} {F_fd_density : Int → Int} {F_fd_length : Int → Int} {F_fd_shift : Int → Int} {F_fd_pull : Int → Int} {F_fd_underlay : Int → Int} {F_fd_drawn : Int → Int} {F_pt_xs : Int → Int → Int} {F_pt_ys : Int → Int → Int} {F_pt_size : Int → Int} {p1 : Int} {p2 : Int} {p3 : Int} {lw_out : Int} {R0 : Int} {R_sp_planned : Int} {R_F_fd_cornerXs : Int → Int → Int} {R_F_fd_cornerYs : Int → Int → Int} {R_F_fd_cornerCount : Int → Int} {R_F_fd_drawn : Int → Int} {R_lw_out : Int} (h_sp : σ0 0 = oC_sp ad sp_fieldCount sp_trimBound sp_planned) (h_sp_fields : σ0 1 = .inl (cF, 8, .inr (.inr (.inr (.inr (zFA ad nF)))))) (h_FF : zFF ad cI nF σ0 F_fd_colour F_fd_layer F_fd_column F_fd_cornerXs F_fd_cornerYs F_fd_crossings F_fd_cornerCount F_fd_crossingCount F_fd_density F_fd_length F_fd_shift F_fd_pull F_fd_underlay F_fd_drawn F_pt_xs F_pt_ys F_pt_size) (h_out : zO cL σ0 lw_out) (hf : f_L_corner sp_fieldCount sp_planned F_fd_column F_fd_cornerXs F_fd_cornerYs F_fd_cornerCount F_fd_drawn nF p1 p2 p3 lw_out = some (R0, R_sp_planned, R_F_fd_cornerXs, R_F_fd_cornerYs, R_F_fd_cornerCount, R_F_fd_drawn, R_lw_out)) :
    Met l yL_corner (Cond.codeWith yL_corner cL_corner 6 (some .int) [(0, 12, 15, 21), (0, 12, 19, 13), (0, 12, 23, 15)] :: wsL_law) rmL_corner (zPreH D ad N (zT cI cZ cF cL cD) σ0 sz [.ref (ad 0), .int (zI p1), .int (zI p2), .int (zI p3), .ref (ad 44)]) (zQi D ad N sz (fun r σ' => r = zI R0 ∧ σ' 0 = oC_sp ad sp_fieldCount sp_trimBound R_sp_planned ∧ zFF ad cI nF σ' F_fd_colour F_fd_layer F_fd_column R_F_fd_cornerXs R_F_fd_cornerYs F_fd_crossings R_F_fd_cornerCount F_fd_crossingCount F_fd_density F_fd_length F_fd_shift F_fd_pull F_fd_underlay R_F_fd_drawn F_pt_xs F_pt_ys F_pt_size ∧ zO cL σ' R_lw_out ∧ ∀ i : Nat, i < 46 → i ≠ 0 → i ≠ 44 → σ' i = σ0 i)) 2 12 (zFr ad N sz) := by
  refine zMetH hI (by decide) (Nat.le_of_ble_eq_true rfl) ?_
  intro p e s m args below meth c Q hx hb hr hlocks hml hown hts htab hK hX hNc hsz hQ hH hA ls hl
  subst hsz
  have hl : lv_has ls 6 [(0, .ref (ad 0)), (1, .int (zI p1)), (2, .int (zI p2)), (3, .int (zI p3)), (4, .ref (ad 44))] := hl
  have hk_sp : 0 < N := by omega
  have hk_b : 44 < N := by omega
  unfold f_L_corner at hf
  refine lv_aload hx hb dL_corner_0 (lv_at hl 4 rfl) ?_
  refine lv_iconst (v := zI 0) hx hb dL_corner_2 (by decide +kernel) ?_
  refine lv_aload_n hx hb dL_corner_3 rfl (lv_at hl 0 rfl) ?_
  refine lv_iload_n hx hb dL_corner_4 rfl (lv_at hl 1 rfl) ?_
  refine lv_iload_n hx hb dL_corner_5 rfl (lv_at hl 2 rfl) ?_
  refine lv_iload_n hx hb dL_corner_6 rfl (lv_at hl 3 rfl) ?_
  obtain ⟨t, r, u0, u1, u2, u3, u4, k1, hf⟩ := zb7_some hf
  refine zxVi (C := RX6) (As := [.int (zI p1), .int (zI p2), .int (zI p3)]) (rest := [.int (zI 0), .ref (ad 44)]) hx hb hml hown hts hl.1 hK hH hA (hX.kept hH.2.2.2.1) (c_X6_corner hI hN hNF hst h_sp h_sp_fields h_FF k1) zk_t3_63 zk_t3_64 zk_t3_65 zk_t1_1 zk_t3_66 hd_X6_corner rfl ⟨rfl, rfl, Nat.le_of_ble_eq_true rfl, Nat.le_of_ble_eq_true rfl⟩ ⟨by decide, by decide⟩ hk_sp h_sp rfl rfl rfl (Nat.le_of_ble_eq_true rfl) dL_corner_7 (fun E ce q9 σ1 H1 l1 hp hE hH hce hcv hcl => ?_) (fun q1 σ1 H1 l1 hp hH => ?_)
  · replace hf := (if_pos (zEx_ne hE)).symm.trans hf
    obtain ⟨h_sp, h_FF, hn⟩ := hp
    have hE0 := hE
    rcases hE0 with ⟨rfl, ht⟩ | ⟨rfl, ht⟩ | ⟨rfl, ht⟩
    · subst ht
      refine vx_catch hown [⟨0, 12, 15, 21⟩] ⟨0, 12, 19, 13⟩ [⟨0, 12, 23, 15⟩] htab (fun z hz => by
          rcases List.mem_cons.mp hz with rfl | hz
          · exact Or.inr ⟨by decide, _, hts _ zk_t3_62, hNc _ (List.mem_of_getElem? (i := 1) rfl)⟩
          · exact nomatch hz) (by decide) (by decide) (hts _ zk_t2_123) (zcast hX zcb_1) hce hcv hcl ?_
      refine lv_astore (lv' := [(5, .ref q9), (0, .ref (ad 0)), (1, .int (zI p1)), (2, .int (zI p2)), (3, .int (zI p3)), (4, .ref (ad 44))]) hx hb dL_corner_19 hl (by decide) rfl (fun ls hl => ?_)
      refine lv_iconst (v := zI 2) hx hb dL_corner_21 (by decide +kernel) ?_
      cases hf
      exact zretW hx hb hr hlocks hQ hH ⟨rfl, h_sp, h_FF, (zO_keep h_out (hn 44 (by decide) (by decide))), fun i h46 a0 ab => hn i h46 a0⟩ ⟨by decide, by decide⟩ dL_corner_22
    · subst ht
      refine vx_catch hown [⟨0, 12, 15, 21⟩, ⟨0, 12, 19, 13⟩] ⟨0, 12, 23, 15⟩ [] htab (fun z hz => by
          rcases List.mem_cons.mp hz with rfl | hz
          · exact Or.inr ⟨by decide, _, hts _ zk_t3_62, hNc _ (List.mem_of_getElem? (i := 3) rfl)⟩
          · rcases List.mem_cons.mp hz with rfl | hz
            · exact Or.inr ⟨by decide, _, hts _ zk_t2_123, hNc _ (List.mem_of_getElem? (i := 2) rfl)⟩
            · exact nomatch hz) (by decide) (by decide) (hts _ zk_t2_124) (zcast hX zcb_2) hce hcv hcl ?_
      refine lv_astore (lv' := [(5, .ref q9), (0, .ref (ad 0)), (1, .int (zI p1)), (2, .int (zI p2)), (3, .int (zI p3)), (4, .ref (ad 44))]) hx hb dL_corner_23 hl (by decide) rfl (fun ls hl => ?_)
      refine lv_iconst (v := zI 3) hx hb dL_corner_25 (by decide +kernel) ?_
      cases hf
      exact zretW hx hb hr hlocks hQ hH ⟨rfl, h_sp, h_FF, (zO_keep h_out (hn 44 (by decide) (by decide))), fun i h46 a0 ab => hn i h46 a0⟩ ⟨by decide, by decide⟩ dL_corner_26
    · subst ht
      refine vx_catch hown [] ⟨0, 12, 15, 21⟩ [⟨0, 12, 19, 13⟩, ⟨0, 12, 23, 15⟩] htab (fun z hz => nomatch hz) (by decide) (by decide) (hts _ zk_t3_62) (zcast hX zcb_3) hce hcv hcl ?_
      refine lv_astore (lv' := [(5, .ref q9), (0, .ref (ad 0)), (1, .int (zI p1)), (2, .int (zI p2)), (3, .int (zI p3)), (4, .ref (ad 44))]) hx hb dL_corner_15 hl (by decide) rfl (fun ls hl => ?_)
      refine lv_iconst (v := zI 1) hx hb dL_corner_17 (by decide +kernel) ?_
      cases hf
      exact zretW hx hb hr hlocks hQ hH ⟨rfl, h_sp, h_FF, (zO_keep h_out (hn 44 (by decide) (by decide))), fun i h46 a0 ab => hn i h46 a0⟩ ⟨by decide, by decide⟩ dL_corner_18
  obtain ⟨ht0, hr1, h_sp, h_FF, hn⟩ := hp
  replace hf := (if_neg (fun z => z ht0)).symm.trans hf
  subst hr1
  have h_out := (zO_keep h_out (hn 44 (by decide) (by decide)))
  refine lv_i2l hx hb dL_corner_10 rfl ?_
  refine zlast hx hb hK hH hk_b h_out rfl dL_corner_11 (fun σ2 H2 l2 h_out hn2 hH => ?_)
  have h_sp := (hn2 0 (by decide)).trans h_sp
  have h_FF := zFF_keep (fun i hi => hn2 i (by omega)) h_FF
  refine lv_goto (tgt := 27) hx hb dL_corner_12 (by decide) ?_
  refine lv_iconst (v := zI 0) hx hb dL_corner_27 (by decide +kernel) ?_
  cases hf
  exact zretW hx hb hr hlocks hQ hH ⟨rfl, h_sp, h_FF, h_out, fun i h46 a0 ab => (hn2 i ab).trans (hn i h46 a0)⟩ ⟨by decide, by decide⟩ dL_corner_28
def f_L_sew (sp_fieldCount : Int) (sp_planned : Int) (F_fd_density : Int → Int) (F_fd_length : Int → Int) (F_fd_shift : Int → Int) (F_fd_pull : Int → Int) (F_fd_underlay : Int → Int) (F_fd_drawn : Int → Int) (nF : Int) (p1 : Int) (p2 : Int) (p3 : Int) (p4 : Int) (p5 : Int) (p6 : Int) : Option (Int × Int × (Int → Int) × (Int → Int) × (Int → Int) × (Int → Int) × (Int → Int) × (Int → Int)) :=
  zb8 (f_X6_sew sp_fieldCount sp_planned F_fd_density F_fd_length F_fd_shift F_fd_pull F_fd_underlay F_fd_drawn nF p1 p2 p3 p4 p5 p6) fun t u0 u1 u2 u3 u4 u5 u6 =>
  if ¬ t = 0 then
    if t = 3 then some (1, u0, u1, u2, u3, u4, u5, u6) else if t = 1 then some (2, u0, u1, u2, u3, u4, u5, u6) else none
  else
    some (0, u0, u1, u2, u3, u4, u5, u6)
abbrev rmL_sew : Room := { frames := 8, cells := 2, slots := 12, locals := 141 }
theorem hd_L_sew : yL_sew.cls ≠ "java/lang/invoke/MethodHandle" ∧ yL_sew.cls ≠ "java/lang/invoke/VarHandle" ∧ (parseMethodDescriptor yL_sew.desc).map (fun d => d.parameters.length) = some 7 := by decide +kernel
set_option maxHeartbeats 4000000 in
set_option maxRecDepth 100000 in
theorem c_L_sew {l : Launch} {D : va_G} {cI cZ cF cL cD : ClassId} {ad : Nat → Nat} {N : Nat} (hI : ∀ i j, i < N → j < N → ad i = ad j → i = j) (hN : 46 ≤ N) {nF : Int} (hNF : N = 46 + 7 * nF.toNat) (hst : l.stackTraces = false) {σ0 : Nat → va_E} {sz : Nat} {sp_fieldCount : Int} {sp_trimBound : Int} {sp_planned : Int} {F_fd_colour : Int → Int} {F_fd_layer : Int → Int} {F_fd_column : Int → Int} {F_fd_cornerXs : Int → Int → Int} {F_fd_cornerYs : Int → Int → Int} {F_fd_crossings : Int → Int → Int} {F_fd_cornerCount : Int → Int} {F_fd_crossingCount : Int → Int} {F_fd_density : Int → Int} {F_fd_length : Int → Int} {F_fd_shift : Int → Int} {F_fd_pull : Int → Int} {F_fd_underlay : Int → Int} {F_fd_drawn : Int → Int} {F_pt_xs : Int → Int → Int} {F_pt_ys : Int → Int → Int} {F_pt_size : Int → Int} {p1 : Int} {p2 : Int} {p3 : Int} {p4 : Int} {p5 : Int} {p6 : Int} {R0 : Int} {R_sp_planned : Int} {R_F_fd_density : Int → Int} {R_F_fd_length : Int → Int} {R_F_fd_shift : Int → Int} {R_F_fd_pull : Int → Int} {R_F_fd_underlay : Int → Int} {R_F_fd_drawn : Int → Int} (h_sp : σ0 0 = oC_sp ad sp_fieldCount sp_trimBound sp_planned) (h_sp_fields : σ0 1 = .inl (cF, 8, .inr (.inr (.inr (.inr (zFA ad nF)))))) (h_FF : zFF ad cI nF σ0 F_fd_colour F_fd_layer F_fd_column F_fd_cornerXs F_fd_cornerYs F_fd_crossings F_fd_cornerCount F_fd_crossingCount F_fd_density F_fd_length F_fd_shift F_fd_pull F_fd_underlay F_fd_drawn F_pt_xs F_pt_ys F_pt_size) (hf : f_L_sew sp_fieldCount sp_planned F_fd_density F_fd_length F_fd_shift F_fd_pull F_fd_underlay F_fd_drawn nF p1 p2 p3 p4 p5 p6 = some (R0, R_sp_planned, R_F_fd_density, R_F_fd_length, R_F_fd_shift, R_F_fd_pull, R_F_fd_underlay, R_F_fd_drawn)) :
    Met l yL_sew (Cond.codeWith yL_sew cL_sew 8 (some .int) [(0, 13, 16, 21), (0, 13, 20, 13)] :: wsL_law) rmL_sew (zPreH D ad N (zT cI cZ cF cL cD) σ0 sz [.ref (ad 0), .int (zI p1), .int (zI p2), .int (zI p3), .int (zI p4), .int (zI p5), .int (zI p6)]) (zQi D ad N sz (fun r σ' => r = zI R0 ∧ σ' 0 = oC_sp ad sp_fieldCount sp_trimBound R_sp_planned ∧ zFF ad cI nF σ' F_fd_colour F_fd_layer F_fd_column F_fd_cornerXs F_fd_cornerYs F_fd_crossings F_fd_cornerCount F_fd_crossingCount R_F_fd_density R_F_fd_length R_F_fd_shift R_F_fd_pull R_F_fd_underlay R_F_fd_drawn F_pt_xs F_pt_ys F_pt_size ∧ ∀ i : Nat, i < 46 → i ≠ 0 → σ' i = σ0 i)) 2 12 (zFr ad N sz) := by
  refine zMetH hI (by decide) (Nat.le_of_ble_eq_true rfl) ?_
  intro p e s m args below meth c Q hx hb hr hlocks hml hown hts htab hK hX hNc hsz hQ hH hA ls hl
  subst hsz
  have hl : lv_has ls 8 [(0, .ref (ad 0)), (1, .int (zI p1)), (2, .int (zI p2)), (3, .int (zI p3)), (4, .int (zI p4)), (5, .int (zI p5)), (6, .int (zI p6))] := hl
  have hk_sp : 0 < N := by omega
  have hk_b : 44 < N := by omega
  unfold f_L_sew at hf
  refine lv_aload_n hx hb dL_sew_0 rfl (lv_at hl 0 rfl) ?_
  refine lv_iload_n hx hb dL_sew_1 rfl (lv_at hl 1 rfl) ?_
  refine lv_iload_n hx hb dL_sew_2 rfl (lv_at hl 2 rfl) ?_
  refine lv_iload_n hx hb dL_sew_3 rfl (lv_at hl 3 rfl) ?_
  refine lv_iload hx hb dL_sew_4 (lv_at hl 4 rfl) ?_
  refine lv_iload hx hb dL_sew_6 (lv_at hl 5 rfl) ?_
  refine lv_iload hx hb dL_sew_8 (lv_at hl 6 rfl) ?_
  obtain ⟨t, u0, u1, u2, u3, u4, u5, u6, k1, hf⟩ := zb8_some hf
  refine zxVv (C := RX6) (As := [.int (zI p1), .int (zI p2), .int (zI p3), .int (zI p4), .int (zI p5), .int (zI p6)]) (rest := []) hx hb hml hown hts hl.1 hK hH hA (hX.kept hH.2.2.2.1) (c_X6_sew hI hN hNF hst h_sp h_sp_fields h_FF k1) zk_t3_100 zk_t3_101 zk_t3_102 zk_t1_1 zk_t3_103 hd_X6_sew rfl ⟨rfl, rfl, Nat.le_of_ble_eq_true rfl, Nat.le_of_ble_eq_true rfl⟩ ⟨by decide, by decide⟩ hk_sp h_sp rfl rfl rfl (Nat.le_of_ble_eq_true rfl) dL_sew_10 (fun E ce q9 σ1 H1 l1 hp hE hH hce hcv hcl => ?_) (fun σ1 H1 l1 hp hH => ?_)
  · replace hf := (if_pos (zEx_ne hE)).symm.trans hf
    obtain ⟨h_sp, h_FF, hn⟩ := hp
    have hE0 := hE
    rcases hE0 with ⟨rfl, ht⟩ | ⟨rfl, ht⟩ | ⟨rfl, ht⟩
    · subst ht
      refine vx_catch hown [⟨0, 13, 16, 21⟩] ⟨0, 13, 20, 13⟩ [] htab (fun z hz => by
          rcases List.mem_cons.mp hz with rfl | hz
          · exact Or.inr ⟨by decide, _, hts _ zk_t3_62, hNc _ (List.mem_of_getElem? (i := 1) rfl)⟩
          · exact nomatch hz) (by decide) (by decide) (hts _ zk_t2_123) (zcast hX zcb_1) hce hcv hcl ?_
      refine lv_astore (lv' := [(7, .ref q9), (0, .ref (ad 0)), (1, .int (zI p1)), (2, .int (zI p2)), (3, .int (zI p3)), (4, .int (zI p4)), (5, .int (zI p5)), (6, .int (zI p6))]) hx hb dL_sew_20 hl (by decide) rfl (fun ls hl => ?_)
      refine lv_iconst (v := zI 2) hx hb dL_sew_22 (by decide +kernel) ?_
      cases hf
      exact zretW hx hb hr hlocks hQ hH ⟨rfl, h_sp, h_FF, fun i h46 a0 => hn i h46 a0⟩ ⟨by decide, by decide⟩ dL_sew_23
    · subst ht
      exact absurd hf (by simp)
    · subst ht
      refine vx_catch hown [] ⟨0, 13, 16, 21⟩ [⟨0, 13, 20, 13⟩] htab (fun z hz => nomatch hz) (by decide) (by decide) (hts _ zk_t3_62) (zcast hX zcb_3) hce hcv hcl ?_
      refine lv_astore (lv' := [(7, .ref q9), (0, .ref (ad 0)), (1, .int (zI p1)), (2, .int (zI p2)), (3, .int (zI p3)), (4, .int (zI p4)), (5, .int (zI p5)), (6, .int (zI p6))]) hx hb dL_sew_16 hl (by decide) rfl (fun ls hl => ?_)
      refine lv_iconst (v := zI 1) hx hb dL_sew_18 (by decide +kernel) ?_
      cases hf
      exact zretW hx hb hr hlocks hQ hH ⟨rfl, h_sp, h_FF, fun i h46 a0 => hn i h46 a0⟩ ⟨by decide, by decide⟩ dL_sew_19
  obtain ⟨ht0, h_sp, h_FF, hn⟩ := hp
  replace hf := (if_neg (fun z => z ht0)).symm.trans hf
  refine lv_goto (tgt := 24) hx hb dL_sew_13 (by decide) ?_
  refine lv_iconst (v := zI 0) hx hb dL_sew_24 (by decide +kernel) ?_
  cases hf
  exact zretW hx hb hr hlocks hQ hH ⟨rfl, h_sp, h_FF, fun i h46 a0 => hn i h46 a0⟩ ⟨by decide, by decide⟩ dL_sew_25
def f_L_scale (sp_fieldCount : Int) (sp_planned : Int) (F_fd_cornerXs : Int → Int → Int) (F_fd_cornerYs : Int → Int → Int) (F_fd_cornerCount : Int → Int) (F_fd_drawn : Int → Int) (nF : Int) (p1 : Int) (p2 : Int) : Option (Int × Int × (Int → Int → Int) × (Int → Int → Int) × (Int → Int)) :=
  zb5 (f_X6_scale sp_fieldCount sp_planned F_fd_cornerXs F_fd_cornerYs F_fd_cornerCount F_fd_drawn nF p1 p2) fun t u0 u1 u2 u3 =>
  if ¬ t = 0 then
    if t = 3 then some (1, u0, u1, u2, u3) else if t = 1 then some (2, u0, u1, u2, u3) else if t = 2 then some (3, u0, u1, u2, u3) else none
  else
    some (0, u0, u1, u2, u3)
abbrev rmL_scale : Room := { frames := 8, cells := 2, slots := 12, locals := 137 }
theorem hd_L_scale : yL_scale.cls ≠ "java/lang/invoke/MethodHandle" ∧ yL_scale.cls ≠ "java/lang/invoke/VarHandle" ∧ (parseMethodDescriptor yL_scale.desc).map (fun d => d.parameters.length) = some 3 := by decide +kernel
set_option maxHeartbeats 4000000 in
set_option maxRecDepth 100000 in
theorem c_L_scale {l : Launch} {D : va_G} {cI cZ cF cL cD : ClassId} {ad : Nat → Nat} {N : Nat} (hI : ∀ i j, i < N → j < N → ad i = ad j → i = j) (hN : 46 ≤ N) {nF : Int} (hNF : N = 46 + 7 * nF.toNat) (hst : l.stackTraces = false) {σ0 : Nat → va_E} {sz : Nat} {sp_fieldCount : Int} {sp_trimBound : Int} {sp_planned : Int} {F_fd_colour : Int → Int} {F_fd_layer : Int → Int} {F_fd_column : Int → Int} {F_fd_cornerXs : Int → Int → Int} {F_fd_cornerYs : Int → Int → Int} {F_fd_crossings : Int → Int → Int} {F_fd_cornerCount : Int → Int} {F_fd_crossingCount : Int → Int} {F_fd_density : Int → Int} {F_fd_length : Int → Int} {F_fd_shift : Int → Int} {F_fd_pull : Int → Int} {F_fd_underlay : Int → Int} {F_fd_drawn : Int → Int} {F_pt_xs : Int → Int → Int} {F_pt_ys : Int → Int → Int} {F_pt_size : Int → Int} {p1 : Int} {p2 : Int} {R0 : Int} {R_sp_planned : Int} {R_F_fd_cornerXs : Int → Int → Int} {R_F_fd_cornerYs : Int → Int → Int} {R_F_fd_drawn : Int → Int} (h_sp : σ0 0 = oC_sp ad sp_fieldCount sp_trimBound sp_planned) (h_sp_fields : σ0 1 = .inl (cF, 8, .inr (.inr (.inr (.inr (zFA ad nF)))))) (h_FF : zFF ad cI nF σ0 F_fd_colour F_fd_layer F_fd_column F_fd_cornerXs F_fd_cornerYs F_fd_crossings F_fd_cornerCount F_fd_crossingCount F_fd_density F_fd_length F_fd_shift F_fd_pull F_fd_underlay F_fd_drawn F_pt_xs F_pt_ys F_pt_size) (hf : f_L_scale sp_fieldCount sp_planned F_fd_cornerXs F_fd_cornerYs F_fd_cornerCount F_fd_drawn nF p1 p2 = some (R0, R_sp_planned, R_F_fd_cornerXs, R_F_fd_cornerYs, R_F_fd_drawn)) :
    Met l yL_scale (Cond.codeWith yL_scale cL_scale 4 (some .int) [(0, 6, 9, 21), (0, 6, 12, 13), (0, 6, 15, 15)] :: wsL_law) rmL_scale (zPreH D ad N (zT cI cZ cF cL cD) σ0 sz [.ref (ad 0), .int (zI p1), .int (zI p2)]) (zQi D ad N sz (fun r σ' => r = zI R0 ∧ σ' 0 = oC_sp ad sp_fieldCount sp_trimBound R_sp_planned ∧ zFF ad cI nF σ' F_fd_colour F_fd_layer F_fd_column R_F_fd_cornerXs R_F_fd_cornerYs F_fd_crossings F_fd_cornerCount F_fd_crossingCount F_fd_density F_fd_length F_fd_shift F_fd_pull F_fd_underlay R_F_fd_drawn F_pt_xs F_pt_ys F_pt_size ∧ ∀ i : Nat, i < 46 → i ≠ 0 → σ' i = σ0 i)) 2 12 (zFr ad N sz) := by
  refine zMetH hI (by decide) (Nat.le_of_ble_eq_true rfl) ?_
  intro p e s m args below meth c Q hx hb hr hlocks hml hown hts htab hK hX hNc hsz hQ hH hA ls hl
  subst hsz
  have hl : lv_has ls 4 [(0, .ref (ad 0)), (1, .int (zI p1)), (2, .int (zI p2))] := hl
  have hk_sp : 0 < N := by omega
  have hk_b : 44 < N := by omega
  unfold f_L_scale at hf
  refine lv_aload_n hx hb dL_scale_0 rfl (lv_at hl 0 rfl) ?_
  refine lv_iload_n hx hb dL_scale_1 rfl (lv_at hl 1 rfl) ?_
  refine lv_iload_n hx hb dL_scale_2 rfl (lv_at hl 2 rfl) ?_
  obtain ⟨t, u0, u1, u2, u3, k1, hf⟩ := zb5_some hf
  refine zxVv (C := RX6) (As := [.int (zI p1), .int (zI p2)]) (rest := []) hx hb hml hown hts hl.1 hK hH hA (hX.kept hH.2.2.2.1) (c_X6_scale hI hN hNF hst h_sp h_sp_fields h_FF k1) zk_t3_115 zk_t3_116 zk_t3_117 zk_t1_1 zk_t3_118 hd_X6_scale rfl ⟨rfl, rfl, Nat.le_of_ble_eq_true rfl, Nat.le_of_ble_eq_true rfl⟩ ⟨by decide, by decide⟩ hk_sp h_sp rfl rfl rfl (Nat.le_of_ble_eq_true rfl) dL_scale_3 (fun E ce q9 σ1 H1 l1 hp hE hH hce hcv hcl => ?_) (fun σ1 H1 l1 hp hH => ?_)
  · replace hf := (if_pos (zEx_ne hE)).symm.trans hf
    obtain ⟨h_sp, h_FF, hn⟩ := hp
    have hE0 := hE
    rcases hE0 with ⟨rfl, ht⟩ | ⟨rfl, ht⟩ | ⟨rfl, ht⟩
    · subst ht
      refine vx_catch hown [⟨0, 6, 9, 21⟩] ⟨0, 6, 12, 13⟩ [⟨0, 6, 15, 15⟩] htab (fun z hz => by
          rcases List.mem_cons.mp hz with rfl | hz
          · exact Or.inr ⟨by decide, _, hts _ zk_t3_62, hNc _ (List.mem_of_getElem? (i := 1) rfl)⟩
          · exact nomatch hz) (by decide) (by decide) (hts _ zk_t2_123) (zcast hX zcb_1) hce hcv hcl ?_
      refine lv_astore_n (lv' := [(3, .ref q9), (0, .ref (ad 0)), (1, .int (zI p1)), (2, .int (zI p2))]) hx hb dL_scale_12 rfl hl (by decide) rfl (fun ls hl => ?_)
      refine lv_iconst (v := zI 2) hx hb dL_scale_13 (by decide +kernel) ?_
      cases hf
      exact zretW hx hb hr hlocks hQ hH ⟨rfl, h_sp, h_FF, fun i h46 a0 => hn i h46 a0⟩ ⟨by decide, by decide⟩ dL_scale_14
    · subst ht
      refine vx_catch hown [⟨0, 6, 9, 21⟩, ⟨0, 6, 12, 13⟩] ⟨0, 6, 15, 15⟩ [] htab (fun z hz => by
          rcases List.mem_cons.mp hz with rfl | hz
          · exact Or.inr ⟨by decide, _, hts _ zk_t3_62, hNc _ (List.mem_of_getElem? (i := 3) rfl)⟩
          · rcases List.mem_cons.mp hz with rfl | hz
            · exact Or.inr ⟨by decide, _, hts _ zk_t2_123, hNc _ (List.mem_of_getElem? (i := 2) rfl)⟩
            · exact nomatch hz) (by decide) (by decide) (hts _ zk_t2_124) (zcast hX zcb_2) hce hcv hcl ?_
      refine lv_astore_n (lv' := [(3, .ref q9), (0, .ref (ad 0)), (1, .int (zI p1)), (2, .int (zI p2))]) hx hb dL_scale_15 rfl hl (by decide) rfl (fun ls hl => ?_)
      refine lv_iconst (v := zI 3) hx hb dL_scale_16 (by decide +kernel) ?_
      cases hf
      exact zretW hx hb hr hlocks hQ hH ⟨rfl, h_sp, h_FF, fun i h46 a0 => hn i h46 a0⟩ ⟨by decide, by decide⟩ dL_scale_17
    · subst ht
      refine vx_catch hown [] ⟨0, 6, 9, 21⟩ [⟨0, 6, 12, 13⟩, ⟨0, 6, 15, 15⟩] htab (fun z hz => nomatch hz) (by decide) (by decide) (hts _ zk_t3_62) (zcast hX zcb_3) hce hcv hcl ?_
      refine lv_astore_n (lv' := [(3, .ref q9), (0, .ref (ad 0)), (1, .int (zI p1)), (2, .int (zI p2))]) hx hb dL_scale_9 rfl hl (by decide) rfl (fun ls hl => ?_)
      refine lv_iconst (v := zI 1) hx hb dL_scale_10 (by decide +kernel) ?_
      cases hf
      exact zretW hx hb hr hlocks hQ hH ⟨rfl, h_sp, h_FF, fun i h46 a0 => hn i h46 a0⟩ ⟨by decide, by decide⟩ dL_scale_11
  obtain ⟨ht0, h_sp, h_FF, hn⟩ := hp
  replace hf := (if_neg (fun z => z ht0)).symm.trans hf
  refine lv_goto (tgt := 18) hx hb dL_scale_6 (by decide) ?_
  refine lv_iconst (v := zI 0) hx hb dL_scale_18 (by decide +kernel) ?_
  cases hf
  exact zretW hx hb hr hlocks hQ hH ⟨rfl, h_sp, h_FF, fun i h46 a0 => hn i h46 a0⟩ ⟨by decide, by decide⟩ dL_scale_19
def f_L_bound (sp_trimBound : Int) (sp_planned : Int) (p1 : Int) (lw_out : Int) : Option (Int × Int × Int × Int) :=
  zb4 (f_X6_bound sp_trimBound sp_planned p1) fun t r u0 u1 =>
  if ¬ t = 0 then
    if t = 1 then some (1, u0, u1, lw_out) else none
  else
    some (0, u0, u1, r)
abbrev rmL_bound : Room := { frames := 7, cells := 1, slots := 6, locals := 114 }
theorem hd_L_bound : yL_bound.cls ≠ "java/lang/invoke/MethodHandle" ∧ yL_bound.cls ≠ "java/lang/invoke/VarHandle" ∧ (parseMethodDescriptor yL_bound.desc).map (fun d => d.parameters.length) = some 3 := by decide +kernel
set_option maxHeartbeats 4000000 in
set_option maxRecDepth 100000 in
theorem c_L_bound {l : Launch} {D : va_G} {cI cZ cF cL cD : ClassId} {ad : Nat → Nat} {N : Nat} (hI : ∀ i j, i < N → j < N → ad i = ad j → i = j) (hN : 46 ≤ N) (hst : l.stackTraces = false) {σ0 : Nat → va_E} {sz : Nat} {sp_fieldCount : Int} {sp_trimBound : Int} {sp_planned : Int} {p1 : Int} {lw_out : Int} {R0 : Int} {R_sp_trimBound : Int} {R_sp_planned : Int} {R_lw_out : Int} (h_sp : σ0 0 = oC_sp ad sp_fieldCount sp_trimBound sp_planned) (h_out : zO cL σ0 lw_out) (hf : f_L_bound sp_trimBound sp_planned p1 lw_out = some (R0, R_sp_trimBound, R_sp_planned, R_lw_out)) :
    Met l yL_bound (Cond.codeWith yL_bound cL_bound 4 (some .int) [(0, 9, 12, 13)] :: wsL_law) rmL_bound (zPreH D ad N (zT cI cZ cF cL cD) σ0 sz [.ref (ad 0), .int (zI p1), .ref (ad 44)]) (zQi D ad N sz (fun r σ' => r = zI R0 ∧ σ' 0 = oC_sp ad sp_fieldCount R_sp_trimBound R_sp_planned ∧ zO cL σ' R_lw_out ∧ ∀ i : Nat, i ≠ 0 → i ≠ 44 → σ' i = σ0 i)) 1 6 (zFr ad N sz) := by
  refine zMetH hI (by decide) (Nat.le_of_ble_eq_true rfl) ?_
  intro p e s m args below meth c Q hx hb hr hlocks hml hown hts htab hK hX hNc hsz hQ hH hA ls hl
  subst hsz
  have hl : lv_has ls 4 [(0, .ref (ad 0)), (1, .int (zI p1)), (2, .ref (ad 44))] := hl
  have hk_sp : 0 < N := by omega
  have hk_b : 44 < N := by omega
  unfold f_L_bound at hf
  refine lv_aload_n hx hb dL_bound_0 rfl (lv_at hl 2 rfl) ?_
  refine lv_iconst (v := zI 0) hx hb dL_bound_1 (by decide +kernel) ?_
  refine lv_aload_n hx hb dL_bound_2 rfl (lv_at hl 0 rfl) ?_
  refine lv_iload_n hx hb dL_bound_3 rfl (lv_at hl 1 rfl) ?_
  obtain ⟨t, r, u0, u1, k1, hf⟩ := zb4_some hf
  refine zxVi (C := RX6) (As := [.int (zI p1)]) (rest := [.int (zI 0), .ref (ad 44)]) hx hb hml hown hts hl.1 hK hH hA (hX.kept hH.2.2.2.1) (c_X6_bound hI hN hst h_sp k1) zk_t3_132 zk_t3_133 zk_t3_134 zk_t1_1 zk_t3_135 hd_X6_bound rfl ⟨rfl, rfl, Nat.le_of_ble_eq_true rfl, Nat.le_of_ble_eq_true rfl⟩ ⟨by decide, by decide⟩ hk_sp h_sp rfl rfl rfl (Nat.le_of_ble_eq_true rfl) dL_bound_4 (fun E ce q9 σ1 H1 l1 hp hE hH hce hcv hcl => ?_) (fun q1 σ1 H1 l1 hp hH => ?_)
  · replace hf := (if_pos (zEx_ne hE)).symm.trans hf
    obtain ⟨h_sp, hn⟩ := hp
    have hE0 := hE
    rcases hE0 with ⟨rfl, ht⟩ | ⟨rfl, ht⟩ | ⟨rfl, ht⟩
    · subst ht
      refine vx_catch hown [] ⟨0, 9, 12, 13⟩ [] htab (fun z hz => nomatch hz) (by decide) (by decide) (hts _ zk_t2_123) (zcast hX zcb_1) hce hcv hcl ?_
      refine lv_astore_n (lv' := [(3, .ref q9), (0, .ref (ad 0)), (1, .int (zI p1)), (2, .ref (ad 44))]) hx hb dL_bound_12 rfl hl (by decide) rfl (fun ls hl => ?_)
      refine lv_iconst (v := zI 1) hx hb dL_bound_13 (by decide +kernel) ?_
      cases hf
      exact zretW hx hb hr hlocks hQ hH ⟨rfl, h_sp, (zO_keep h_out (hn 44 (by decide))), fun i a0 ab => hn i a0⟩ ⟨by decide, by decide⟩ dL_bound_14
    · subst ht
      exact absurd hf (by simp)
    · subst ht
      exact absurd hf (by simp)
  obtain ⟨ht0, hr1, h_sp, hn⟩ := hp
  replace hf := (if_neg (fun z => z ht0)).symm.trans hf
  subst hr1
  have h_out := (zO_keep h_out (hn 44 (by decide)))
  refine lv_i2l hx hb dL_bound_7 rfl ?_
  refine zlast hx hb hK hH hk_b h_out rfl dL_bound_8 (fun σ2 H2 l2 h_out hn2 hH => ?_)
  have h_sp := (hn2 0 (by decide)).trans h_sp
  refine lv_goto (tgt := 15) hx hb dL_bound_9 (by decide) ?_
  refine lv_iconst (v := zI 0) hx hb dL_bound_15 (by decide +kernel) ?_
  cases hf
  exact zretW hx hb hr hlocks hQ hH ⟨rfl, h_sp, h_out, fun i a0 ab => (hn2 i ab).trans (hn i a0)⟩ ⟨by decide, by decide⟩ dL_bound_16
def f_L_ofCommand (sp_waiting : Int → Int) (sp_trimBound : Int) (sp_planned : Int) (F_fd_colour : Int → Int) (F_fd_layer : Int → Int) (F_fd_column : Int → Int) (F_fd_cornerXs : Int → Int → Int) (F_fd_cornerYs : Int → Int → Int) (F_fd_crossings : Int → Int → Int) (F_fd_cornerCount : Int → Int) (F_fd_crossingCount : Int → Int) (F_fd_density : Int → Int) (F_fd_length : Int → Int) (F_fd_shift : Int → Int) (F_fd_pull : Int → Int) (F_fd_underlay : Int → Int) (F_fd_drawn : Int → Int) (F_pt_xs : Int → Int → Int) (F_pt_ys : Int → Int → Int) (F_pt_size : Int → Int) (pl_kinds : Int → Int) (pl_differencesX : Int → Int) (pl_differencesY : Int → Int) (pl_owners : Int → Int) (pl_kindCounts : Int → Int) (pl_threads : Int → Int) (pl_size : Int) (pl_seconds : UInt32) (pl_needleX : Int) (pl_needleY : Int) (pl_colour : Int) (nF : Int) (p1 : Int) (p2 : Int) (lw_out : Int) : Option (Int × (Int → Int) × Int × (Int → Int → Int) × (Int → Int) × (Int → Int) × (Int → Int → Int) × (Int → Int → Int) × (Int → Int) × (Int → Int) × (Int → Int) × (Int → Int) × (Int → Int) × (Int → Int) × (Int → Int) × Int × UInt32 × Int × Int × Int × Int) :=
  zb21 (f_X6_ofCommand sp_waiting sp_trimBound sp_planned F_fd_colour F_fd_layer F_fd_column F_fd_cornerXs F_fd_cornerYs F_fd_crossings F_fd_cornerCount F_fd_crossingCount F_fd_density F_fd_length F_fd_shift F_fd_pull F_fd_underlay F_fd_drawn F_pt_xs F_pt_ys F_pt_size pl_kinds pl_differencesX pl_differencesY pl_owners pl_kindCounts pl_threads pl_size pl_seconds pl_needleX pl_needleY pl_colour nF p1 p2) fun t r u0 u1 u2 u3 u4 u5 u6 u7 u8 u9 u10 u11 u12 u13 u14 u15 u16 u17 u18 =>
  if ¬ t = 0 then
    if t = 3 then some (1, u0, u1, u2, u3, u4, u5, u6, u7, u8, u9, u10, u11, u12, u13, u14, u15, u16, u17, u18, lw_out) else if t = 1 then some (2, u0, u1, u2, u3, u4, u5, u6, u7, u8, u9, u10, u11, u12, u13, u14, u15, u16, u17, u18, lw_out) else none
  else
    some (0, u0, u1, u2, u3, u4, u5, u6, u7, u8, u9, u10, u11, u12, u13, u14, u15, u16, u17, u18, r)
abbrev rmL_ofCommand : Room := { frames := 8, cells := 1, slots := 6, locals := 189 }
theorem hd_L_ofCommand : yL_ofCommand.cls ≠ "java/lang/invoke/MethodHandle" ∧ yL_ofCommand.cls ≠ "java/lang/invoke/VarHandle" ∧ (parseMethodDescriptor yL_ofCommand.desc).map (fun d => d.parameters.length) = some 4 := by decide +kernel
set_option maxHeartbeats 4000000 in
set_option maxRecDepth 100000 in
theorem c_L_ofCommand {l : Launch} {D : va_G} {cI cZ cF cL cD : ClassId} {ad : Nat → Nat} {N : Nat} (hI : ∀ i j, i < N → j < N → ad i = ad j → i = j) (hN : 46 ≤ N) {nF : Int} (hNF : N = 46 + 7 * nF.toNat) (hst : l.stackTraces = false) {σ0 : Nat → va_E} {sz : Nat} {sp_waiting : Int → Int} {sp_fieldCount : Int} {sp_trimBound : Int} {sp_planned : Int} {F_fd_colour : Int → Int} {F_fd_layer : Int → Int} {F_fd_column : Int → Int} {F_fd_cornerXs : Int → Int → Int} {F_fd_cornerYs : Int → Int → Int} {F_fd_crossings : Int → Int → Int} {F_fd_cornerCount : Int → Int} {F_fd_crossingCount : Int → Int} {F_fd_density : Int → Int} {F_fd_length : Int → Int} {F_fd_shift : Int → Int} {F_fd_pull : Int → Int} {F_fd_underlay : Int → Int} {F_fd_drawn : Int → Int} {F_pt_xs : Int → Int → Int} {F_pt_ys : Int → Int → Int} {F_pt_size : Int → Int} {pl_kinds : Int → Int} {pl_differencesX : Int → Int} {pl_differencesY : Int → Int} {pl_owners : Int → Int} {pl_kindCounts : Int → Int} {pl_threads : Int → Int} {pl_size : Int} {pl_seconds : UInt32} {pl_needleX : Int} {pl_needleY : Int} {pl_colour : Int} {p1 : Int} {p2 : Int} {lw_out : Int} {R0 : Int} {R_sp_waiting : Int → Int} {R_sp_planned : Int} {R_F_fd_crossings : Int → Int → Int} {R_F_fd_crossingCount : Int → Int} {R_F_fd_drawn : Int → Int} {R_F_pt_xs : Int → Int → Int} {R_F_pt_ys : Int → Int → Int} {R_F_pt_size : Int → Int} {R_pl_kinds : Int → Int} {R_pl_differencesX : Int → Int} {R_pl_differencesY : Int → Int} {R_pl_owners : Int → Int} {R_pl_kindCounts : Int → Int} {R_pl_threads : Int → Int} {R_pl_size : Int} {R_pl_seconds : UInt32} {R_pl_needleX : Int} {R_pl_needleY : Int} {R_pl_colour : Int} {R_lw_out : Int} (h_sp : σ0 0 = oC_sp ad sp_fieldCount sp_trimBound sp_planned) (h_sp_fields : σ0 1 = .inl (cF, 8, .inr (.inr (.inr (.inr (zFA ad nF)))))) (h_sp_waiting : σ0 2 = .inl (cZ, 8, .inl (zA sp_waiting))) (h_pl : σ0 3 = oC_pl ad pl_size pl_seconds pl_needleX pl_needleY pl_colour) (h_pl_kinds : σ0 4 = .inl (cI, 16641, .inl (zA pl_kinds))) (h_pl_differencesX : σ0 5 = .inl (cI, 16641, .inl (zA pl_differencesX))) (h_pl_differencesY : σ0 6 = .inl (cI, 16641, .inl (zA pl_differencesY))) (h_pl_owners : σ0 7 = .inl (cI, 16641, .inl (zA pl_owners))) (h_pl_kindCounts : σ0 8 = .inl (cI, 5, .inl (zA pl_kindCounts))) (h_pl_threads : σ0 9 = .inl (cI, 6, .inl (zA pl_threads))) (h_FF : zFF ad cI nF σ0 F_fd_colour F_fd_layer F_fd_column F_fd_cornerXs F_fd_cornerYs F_fd_crossings F_fd_cornerCount F_fd_crossingCount F_fd_density F_fd_length F_fd_shift F_fd_pull F_fd_underlay F_fd_drawn F_pt_xs F_pt_ys F_pt_size) (h_out : zO cL σ0 lw_out) (hf : f_L_ofCommand sp_waiting sp_trimBound sp_planned F_fd_colour F_fd_layer F_fd_column F_fd_cornerXs F_fd_cornerYs F_fd_crossings F_fd_cornerCount F_fd_crossingCount F_fd_density F_fd_length F_fd_shift F_fd_pull F_fd_underlay F_fd_drawn F_pt_xs F_pt_ys F_pt_size pl_kinds pl_differencesX pl_differencesY pl_owners pl_kindCounts pl_threads pl_size pl_seconds pl_needleX pl_needleY pl_colour nF p1 p2 lw_out = some (R0, R_sp_waiting, R_sp_planned, R_F_fd_crossings, R_F_fd_crossingCount, R_F_fd_drawn, R_F_pt_xs, R_F_pt_ys, R_F_pt_size, R_pl_kinds, R_pl_differencesX, R_pl_differencesY, R_pl_owners, R_pl_kindCounts, R_pl_threads, R_pl_size, R_pl_seconds, R_pl_needleX, R_pl_needleY, R_pl_colour, R_lw_out)) :
    Met l yL_ofCommand (Cond.codeWith yL_ofCommand cL_ofCommand 5 (some .int) [(0, 10, 13, 21), (0, 10, 17, 13)] :: wsL_law) rmL_ofCommand (zPreH D ad N (zT cI cZ cF cL cD) σ0 sz [.ref (ad 0), .int (zI p1), .int (zI p2), .ref (ad 44)]) (zQi D ad N sz (fun r σ' => r = zI R0 ∧ σ' 0 = oC_sp ad sp_fieldCount sp_trimBound R_sp_planned ∧ σ' 2 = .inl (cZ, 8, .inl (zA R_sp_waiting)) ∧ σ' 3 = oC_pl ad R_pl_size R_pl_seconds R_pl_needleX R_pl_needleY R_pl_colour ∧ σ' 4 = .inl (cI, 16641, .inl (zA R_pl_kinds)) ∧ σ' 5 = .inl (cI, 16641, .inl (zA R_pl_differencesX)) ∧ σ' 6 = .inl (cI, 16641, .inl (zA R_pl_differencesY)) ∧ σ' 7 = .inl (cI, 16641, .inl (zA R_pl_owners)) ∧ σ' 8 = .inl (cI, 5, .inl (zA R_pl_kindCounts)) ∧ σ' 9 = .inl (cI, 6, .inl (zA R_pl_threads)) ∧ zFF ad cI nF σ' F_fd_colour F_fd_layer F_fd_column F_fd_cornerXs F_fd_cornerYs R_F_fd_crossings F_fd_cornerCount R_F_fd_crossingCount F_fd_density F_fd_length F_fd_shift F_fd_pull F_fd_underlay R_F_fd_drawn R_F_pt_xs R_F_pt_ys R_F_pt_size ∧ zO cL σ' R_lw_out ∧ ∀ i : Nat, i < 46 → i ≠ 0 → i ≠ 2 → i ≠ 3 → i ≠ 4 → i ≠ 5 → i ≠ 6 → i ≠ 7 → i ≠ 8 → i ≠ 9 → i ≠ 44 → σ' i = σ0 i)) 1 6 (zFr ad N sz) := by
  refine zMetH hI (by decide) (Nat.le_of_ble_eq_true rfl) ?_
  intro p e s m args below meth c Q hx hb hr hlocks hml hown hts htab hK hX hNc hsz hQ hH hA ls hl
  subst hsz
  have hl : lv_has ls 5 [(0, .ref (ad 0)), (1, .int (zI p1)), (2, .int (zI p2)), (3, .ref (ad 44))] := hl
  have hk_sp : 0 < N := by omega
  have hk_b : 44 < N := by omega
  unfold f_L_ofCommand at hf
  refine lv_aload_n hx hb dL_ofCommand_0 rfl (lv_at hl 3 rfl) ?_
  refine lv_iconst (v := zI 0) hx hb dL_ofCommand_1 (by decide +kernel) ?_
  refine lv_aload_n hx hb dL_ofCommand_2 rfl (lv_at hl 0 rfl) ?_
  refine lv_iload_n hx hb dL_ofCommand_3 rfl (lv_at hl 1 rfl) ?_
  refine lv_iload_n hx hb dL_ofCommand_4 rfl (lv_at hl 2 rfl) ?_
  obtain ⟨t, r, u0, u1, u2, u3, u4, u5, u6, u7, u8, u9, u10, u11, u12, u13, u14, u15, u16, u17, u18, k1, hf⟩ := zb21_some hf
  refine zxVi (C := RX6) (As := [.int (zI p1), .int (zI p2)]) (rest := [.int (zI 0), .ref (ad 44)]) hx hb hml hown hts hl.1 hK hH hA (hX.kept hH.2.2.2.1) (c_X6_ofCommand hI hN hNF hst h_sp h_sp_fields h_sp_waiting h_pl h_pl_kinds h_pl_differencesX h_pl_differencesY h_pl_owners h_pl_kindCounts h_pl_threads h_FF k1) zk_t3_140 zk_t3_141 zk_t3_142 zk_t1_1 zk_t3_143 hd_X6_ofCommand rfl ⟨rfl, rfl, Nat.le_of_ble_eq_true rfl, Nat.le_of_ble_eq_true rfl⟩ ⟨by decide, by decide⟩ hk_sp h_sp rfl rfl rfl (Nat.le_of_ble_eq_true rfl) dL_ofCommand_5 (fun E ce q9 σ1 H1 l1 hp hE hH hce hcv hcl => ?_) (fun q1 σ1 H1 l1 hp hH => ?_)
  · replace hf := (if_pos (zEx_ne hE)).symm.trans hf
    obtain ⟨h_sp, h_sp_waiting, h_pl, h_pl_kinds, h_pl_differencesX, h_pl_differencesY, h_pl_owners, h_pl_kindCounts, h_pl_threads, h_FF, hn⟩ := hp
    have hE0 := hE
    rcases hE0 with ⟨rfl, ht⟩ | ⟨rfl, ht⟩ | ⟨rfl, ht⟩
    · subst ht
      refine vx_catch hown [⟨0, 10, 13, 21⟩] ⟨0, 10, 17, 13⟩ [] htab (fun z hz => by
          rcases List.mem_cons.mp hz with rfl | hz
          · exact Or.inr ⟨by decide, _, hts _ zk_t3_62, hNc _ (List.mem_of_getElem? (i := 1) rfl)⟩
          · exact nomatch hz) (by decide) (by decide) (hts _ zk_t2_123) (zcast hX zcb_1) hce hcv hcl ?_
      refine lv_astore (lv' := [(4, .ref q9), (0, .ref (ad 0)), (1, .int (zI p1)), (2, .int (zI p2)), (3, .ref (ad 44))]) hx hb dL_ofCommand_17 hl (by decide) rfl (fun ls hl => ?_)
      refine lv_iconst (v := zI 2) hx hb dL_ofCommand_19 (by decide +kernel) ?_
      cases hf
      exact zretW hx hb hr hlocks hQ hH ⟨rfl, h_sp, h_sp_waiting, h_pl, h_pl_kinds, h_pl_differencesX, h_pl_differencesY, h_pl_owners, h_pl_kindCounts, h_pl_threads, h_FF, (zO_keep h_out (hn 44 (by decide) (by decide) (by decide) (by decide) (by decide) (by decide) (by decide) (by decide) (by decide) (by decide))), fun i h46 a0 a1 a2 a3 a4 a5 a6 a7 a8 ab => hn i h46 a0 a1 a2 a3 a4 a5 a6 a7 a8⟩ ⟨by decide, by decide⟩ dL_ofCommand_20
    · subst ht
      exact absurd hf (by simp)
    · subst ht
      refine vx_catch hown [] ⟨0, 10, 13, 21⟩ [⟨0, 10, 17, 13⟩] htab (fun z hz => nomatch hz) (by decide) (by decide) (hts _ zk_t3_62) (zcast hX zcb_3) hce hcv hcl ?_
      refine lv_astore (lv' := [(4, .ref q9), (0, .ref (ad 0)), (1, .int (zI p1)), (2, .int (zI p2)), (3, .ref (ad 44))]) hx hb dL_ofCommand_13 hl (by decide) rfl (fun ls hl => ?_)
      refine lv_iconst (v := zI 1) hx hb dL_ofCommand_15 (by decide +kernel) ?_
      cases hf
      exact zretW hx hb hr hlocks hQ hH ⟨rfl, h_sp, h_sp_waiting, h_pl, h_pl_kinds, h_pl_differencesX, h_pl_differencesY, h_pl_owners, h_pl_kindCounts, h_pl_threads, h_FF, (zO_keep h_out (hn 44 (by decide) (by decide) (by decide) (by decide) (by decide) (by decide) (by decide) (by decide) (by decide) (by decide))), fun i h46 a0 a1 a2 a3 a4 a5 a6 a7 a8 ab => hn i h46 a0 a1 a2 a3 a4 a5 a6 a7 a8⟩ ⟨by decide, by decide⟩ dL_ofCommand_16
  obtain ⟨ht0, hr1, h_sp, h_sp_waiting, h_pl, h_pl_kinds, h_pl_differencesX, h_pl_differencesY, h_pl_owners, h_pl_kindCounts, h_pl_threads, h_FF, hn⟩ := hp
  replace hf := (if_neg (fun z => z ht0)).symm.trans hf
  subst hr1
  have h_out := (zO_keep h_out (hn 44 (by decide) (by decide) (by decide) (by decide) (by decide) (by decide) (by decide) (by decide) (by decide) (by decide)))
  refine lv_i2l hx hb dL_ofCommand_8 rfl ?_
  refine zlast hx hb hK hH hk_b h_out rfl dL_ofCommand_9 (fun σ2 H2 l2 h_out hn2 hH => ?_)
  have h_sp := (hn2 0 (by decide)).trans h_sp
  have h_sp_waiting := (hn2 2 (by decide)).trans h_sp_waiting
  have h_pl := (hn2 3 (by decide)).trans h_pl
  have h_pl_kinds := (hn2 4 (by decide)).trans h_pl_kinds
  have h_pl_differencesX := (hn2 5 (by decide)).trans h_pl_differencesX
  have h_pl_differencesY := (hn2 6 (by decide)).trans h_pl_differencesY
  have h_pl_owners := (hn2 7 (by decide)).trans h_pl_owners
  have h_pl_kindCounts := (hn2 8 (by decide)).trans h_pl_kindCounts
  have h_pl_threads := (hn2 9 (by decide)).trans h_pl_threads
  have h_FF := zFF_keep (fun i hi => hn2 i (by omega)) h_FF
  refine lv_goto (tgt := 21) hx hb dL_ofCommand_10 (by decide) ?_
  refine lv_iconst (v := zI 0) hx hb dL_ofCommand_21 (by decide +kernel) ?_
  cases hf
  exact zretW hx hb hr hlocks hQ hH ⟨rfl, h_sp, h_sp_waiting, h_pl, h_pl_kinds, h_pl_differencesX, h_pl_differencesY, h_pl_owners, h_pl_kindCounts, h_pl_threads, h_FF, h_out, fun i h46 a0 a1 a2 a3 a4 a5 a6 a7 a8 ab => (hn2 i ab).trans (hn i h46 a0 a1 a2 a3 a4 a5 a6 a7 a8)⟩ ⟨by decide, by decide⟩ dL_ofCommand_22
def f_L_count (sp_waiting : Int → Int) (sp_trimBound : Int) (sp_planned : Int) (F_fd_colour : Int → Int) (F_fd_layer : Int → Int) (F_fd_column : Int → Int) (F_fd_cornerXs : Int → Int → Int) (F_fd_cornerYs : Int → Int → Int) (F_fd_crossings : Int → Int → Int) (F_fd_cornerCount : Int → Int) (F_fd_crossingCount : Int → Int) (F_fd_density : Int → Int) (F_fd_length : Int → Int) (F_fd_shift : Int → Int) (F_fd_pull : Int → Int) (F_fd_underlay : Int → Int) (F_fd_drawn : Int → Int) (F_pt_xs : Int → Int → Int) (F_pt_ys : Int → Int → Int) (F_pt_size : Int → Int) (pl_kinds : Int → Int) (pl_differencesX : Int → Int) (pl_differencesY : Int → Int) (pl_owners : Int → Int) (pl_kindCounts : Int → Int) (pl_threads : Int → Int) (pl_size : Int) (pl_seconds : UInt32) (pl_needleX : Int) (pl_needleY : Int) (pl_colour : Int) (nF : Int) (p1 : Int) (lw_out : Int) : Option (Int × (Int → Int) × Int × (Int → Int → Int) × (Int → Int) × (Int → Int) × (Int → Int → Int) × (Int → Int → Int) × (Int → Int) × (Int → Int) × (Int → Int) × (Int → Int) × (Int → Int) × (Int → Int) × (Int → Int) × Int × UInt32 × Int × Int × Int × Int) :=
  zb21 (f_X6_count sp_waiting sp_trimBound sp_planned F_fd_colour F_fd_layer F_fd_column F_fd_cornerXs F_fd_cornerYs F_fd_crossings F_fd_cornerCount F_fd_crossingCount F_fd_density F_fd_length F_fd_shift F_fd_pull F_fd_underlay F_fd_drawn F_pt_xs F_pt_ys F_pt_size pl_kinds pl_differencesX pl_differencesY pl_owners pl_kindCounts pl_threads pl_size pl_seconds pl_needleX pl_needleY pl_colour nF p1) fun t r u0 u1 u2 u3 u4 u5 u6 u7 u8 u9 u10 u11 u12 u13 u14 u15 u16 u17 u18 =>
  if ¬ t = 0 then
    if t = 1 then some (1, u0, u1, u2, u3, u4, u5, u6, u7, u8, u9, u10, u11, u12, u13, u14, u15, u16, u17, u18, lw_out) else none
  else
    some (0, u0, u1, u2, u3, u4, u5, u6, u7, u8, u9, u10, u11, u12, u13, u14, u15, u16, u17, u18, r)
abbrev rmL_count : Room := { frames := 8, cells := 1, slots := 6, locals := 188 }
theorem hd_L_count : yL_count.cls ≠ "java/lang/invoke/MethodHandle" ∧ yL_count.cls ≠ "java/lang/invoke/VarHandle" ∧ (parseMethodDescriptor yL_count.desc).map (fun d => d.parameters.length) = some 3 := by decide +kernel
set_option maxHeartbeats 4000000 in
set_option maxRecDepth 100000 in
theorem c_L_count {l : Launch} {D : va_G} {cI cZ cF cL cD : ClassId} {ad : Nat → Nat} {N : Nat} (hI : ∀ i j, i < N → j < N → ad i = ad j → i = j) (hN : 46 ≤ N) {nF : Int} (hNF : N = 46 + 7 * nF.toNat) (hst : l.stackTraces = false) {σ0 : Nat → va_E} {sz : Nat} {sp_waiting : Int → Int} {sp_fieldCount : Int} {sp_trimBound : Int} {sp_planned : Int} {F_fd_colour : Int → Int} {F_fd_layer : Int → Int} {F_fd_column : Int → Int} {F_fd_cornerXs : Int → Int → Int} {F_fd_cornerYs : Int → Int → Int} {F_fd_crossings : Int → Int → Int} {F_fd_cornerCount : Int → Int} {F_fd_crossingCount : Int → Int} {F_fd_density : Int → Int} {F_fd_length : Int → Int} {F_fd_shift : Int → Int} {F_fd_pull : Int → Int} {F_fd_underlay : Int → Int} {F_fd_drawn : Int → Int} {F_pt_xs : Int → Int → Int} {F_pt_ys : Int → Int → Int} {F_pt_size : Int → Int} {pl_kinds : Int → Int} {pl_differencesX : Int → Int} {pl_differencesY : Int → Int} {pl_owners : Int → Int} {pl_kindCounts : Int → Int} {pl_threads : Int → Int} {pl_size : Int} {pl_seconds : UInt32} {pl_needleX : Int} {pl_needleY : Int} {pl_colour : Int} {p1 : Int} {lw_out : Int} {R0 : Int} {R_sp_waiting : Int → Int} {R_sp_planned : Int} {R_F_fd_crossings : Int → Int → Int} {R_F_fd_crossingCount : Int → Int} {R_F_fd_drawn : Int → Int} {R_F_pt_xs : Int → Int → Int} {R_F_pt_ys : Int → Int → Int} {R_F_pt_size : Int → Int} {R_pl_kinds : Int → Int} {R_pl_differencesX : Int → Int} {R_pl_differencesY : Int → Int} {R_pl_owners : Int → Int} {R_pl_kindCounts : Int → Int} {R_pl_threads : Int → Int} {R_pl_size : Int} {R_pl_seconds : UInt32} {R_pl_needleX : Int} {R_pl_needleY : Int} {R_pl_colour : Int} {R_lw_out : Int} (h_sp : σ0 0 = oC_sp ad sp_fieldCount sp_trimBound sp_planned) (h_sp_fields : σ0 1 = .inl (cF, 8, .inr (.inr (.inr (.inr (zFA ad nF)))))) (h_sp_waiting : σ0 2 = .inl (cZ, 8, .inl (zA sp_waiting))) (h_pl : σ0 3 = oC_pl ad pl_size pl_seconds pl_needleX pl_needleY pl_colour) (h_pl_kinds : σ0 4 = .inl (cI, 16641, .inl (zA pl_kinds))) (h_pl_differencesX : σ0 5 = .inl (cI, 16641, .inl (zA pl_differencesX))) (h_pl_differencesY : σ0 6 = .inl (cI, 16641, .inl (zA pl_differencesY))) (h_pl_owners : σ0 7 = .inl (cI, 16641, .inl (zA pl_owners))) (h_pl_kindCounts : σ0 8 = .inl (cI, 5, .inl (zA pl_kindCounts))) (h_pl_threads : σ0 9 = .inl (cI, 6, .inl (zA pl_threads))) (h_FF : zFF ad cI nF σ0 F_fd_colour F_fd_layer F_fd_column F_fd_cornerXs F_fd_cornerYs F_fd_crossings F_fd_cornerCount F_fd_crossingCount F_fd_density F_fd_length F_fd_shift F_fd_pull F_fd_underlay F_fd_drawn F_pt_xs F_pt_ys F_pt_size) (h_out : zO cL σ0 lw_out) (hf : f_L_count sp_waiting sp_trimBound sp_planned F_fd_colour F_fd_layer F_fd_column F_fd_cornerXs F_fd_cornerYs F_fd_crossings F_fd_cornerCount F_fd_crossingCount F_fd_density F_fd_length F_fd_shift F_fd_pull F_fd_underlay F_fd_drawn F_pt_xs F_pt_ys F_pt_size pl_kinds pl_differencesX pl_differencesY pl_owners pl_kindCounts pl_threads pl_size pl_seconds pl_needleX pl_needleY pl_colour nF p1 lw_out = some (R0, R_sp_waiting, R_sp_planned, R_F_fd_crossings, R_F_fd_crossingCount, R_F_fd_drawn, R_F_pt_xs, R_F_pt_ys, R_F_pt_size, R_pl_kinds, R_pl_differencesX, R_pl_differencesY, R_pl_owners, R_pl_kindCounts, R_pl_threads, R_pl_size, R_pl_seconds, R_pl_needleX, R_pl_needleY, R_pl_colour, R_lw_out)) :
    Met l yL_count (Cond.codeWith yL_count cL_count 4 (some .int) [(0, 9, 12, 13)] :: wsL_law) rmL_count (zPreH D ad N (zT cI cZ cF cL cD) σ0 sz [.ref (ad 0), .int (zI p1), .ref (ad 44)]) (zQi D ad N sz (fun r σ' => r = zI R0 ∧ σ' 0 = oC_sp ad sp_fieldCount sp_trimBound R_sp_planned ∧ σ' 2 = .inl (cZ, 8, .inl (zA R_sp_waiting)) ∧ σ' 3 = oC_pl ad R_pl_size R_pl_seconds R_pl_needleX R_pl_needleY R_pl_colour ∧ σ' 4 = .inl (cI, 16641, .inl (zA R_pl_kinds)) ∧ σ' 5 = .inl (cI, 16641, .inl (zA R_pl_differencesX)) ∧ σ' 6 = .inl (cI, 16641, .inl (zA R_pl_differencesY)) ∧ σ' 7 = .inl (cI, 16641, .inl (zA R_pl_owners)) ∧ σ' 8 = .inl (cI, 5, .inl (zA R_pl_kindCounts)) ∧ σ' 9 = .inl (cI, 6, .inl (zA R_pl_threads)) ∧ zFF ad cI nF σ' F_fd_colour F_fd_layer F_fd_column F_fd_cornerXs F_fd_cornerYs R_F_fd_crossings F_fd_cornerCount R_F_fd_crossingCount F_fd_density F_fd_length F_fd_shift F_fd_pull F_fd_underlay R_F_fd_drawn R_F_pt_xs R_F_pt_ys R_F_pt_size ∧ zO cL σ' R_lw_out ∧ ∀ i : Nat, i < 46 → i ≠ 0 → i ≠ 2 → i ≠ 3 → i ≠ 4 → i ≠ 5 → i ≠ 6 → i ≠ 7 → i ≠ 8 → i ≠ 9 → i ≠ 44 → σ' i = σ0 i)) 1 6 (zFr ad N sz) := by
  refine zMetH hI (by decide) (Nat.le_of_ble_eq_true rfl) ?_
  intro p e s m args below meth c Q hx hb hr hlocks hml hown hts htab hK hX hNc hsz hQ hH hA ls hl
  subst hsz
  have hl : lv_has ls 4 [(0, .ref (ad 0)), (1, .int (zI p1)), (2, .ref (ad 44))] := hl
  have hk_sp : 0 < N := by omega
  have hk_b : 44 < N := by omega
  unfold f_L_count at hf
  refine lv_aload_n hx hb dL_count_0 rfl (lv_at hl 2 rfl) ?_
  refine lv_iconst (v := zI 0) hx hb dL_count_1 (by decide +kernel) ?_
  refine lv_aload_n hx hb dL_count_2 rfl (lv_at hl 0 rfl) ?_
  refine lv_iload_n hx hb dL_count_3 rfl (lv_at hl 1 rfl) ?_
  obtain ⟨t, r, u0, u1, u2, u3, u4, u5, u6, u7, u8, u9, u10, u11, u12, u13, u14, u15, u16, u17, u18, k1, hf⟩ := zb21_some hf
  refine zxVi (C := RX6) (As := [.int (zI p1)]) (rest := [.int (zI 0), .ref (ad 44)]) hx hb hml hown hts hl.1 hK hH hA (hX.kept hH.2.2.2.1) (c_X6_count hI hN hNF hst h_sp h_sp_fields h_sp_waiting h_pl h_pl_kinds h_pl_differencesX h_pl_differencesY h_pl_owners h_pl_kindCounts h_pl_threads h_FF k1) zk_t3_153 zk_t3_154 zk_t3_155 zk_t1_1 zk_t3_156 hd_X6_count rfl ⟨rfl, rfl, Nat.le_of_ble_eq_true rfl, Nat.le_of_ble_eq_true rfl⟩ ⟨by decide, by decide⟩ hk_sp h_sp rfl rfl rfl (Nat.le_of_ble_eq_true rfl) dL_count_4 (fun E ce q9 σ1 H1 l1 hp hE hH hce hcv hcl => ?_) (fun q1 σ1 H1 l1 hp hH => ?_)
  · replace hf := (if_pos (zEx_ne hE)).symm.trans hf
    obtain ⟨h_sp, h_sp_waiting, h_pl, h_pl_kinds, h_pl_differencesX, h_pl_differencesY, h_pl_owners, h_pl_kindCounts, h_pl_threads, h_FF, hn⟩ := hp
    have hE0 := hE
    rcases hE0 with ⟨rfl, ht⟩ | ⟨rfl, ht⟩ | ⟨rfl, ht⟩
    · subst ht
      refine vx_catch hown [] ⟨0, 9, 12, 13⟩ [] htab (fun z hz => nomatch hz) (by decide) (by decide) (hts _ zk_t2_123) (zcast hX zcb_1) hce hcv hcl ?_
      refine lv_astore_n (lv' := [(3, .ref q9), (0, .ref (ad 0)), (1, .int (zI p1)), (2, .ref (ad 44))]) hx hb dL_count_12 rfl hl (by decide) rfl (fun ls hl => ?_)
      refine lv_iconst (v := zI 1) hx hb dL_count_13 (by decide +kernel) ?_
      cases hf
      exact zretW hx hb hr hlocks hQ hH ⟨rfl, h_sp, h_sp_waiting, h_pl, h_pl_kinds, h_pl_differencesX, h_pl_differencesY, h_pl_owners, h_pl_kindCounts, h_pl_threads, h_FF, (zO_keep h_out (hn 44 (by decide) (by decide) (by decide) (by decide) (by decide) (by decide) (by decide) (by decide) (by decide) (by decide))), fun i h46 a0 a1 a2 a3 a4 a5 a6 a7 a8 ab => hn i h46 a0 a1 a2 a3 a4 a5 a6 a7 a8⟩ ⟨by decide, by decide⟩ dL_count_14
    · subst ht
      exact absurd hf (by simp)
    · subst ht
      exact absurd hf (by simp)
  obtain ⟨ht0, hr1, h_sp, h_sp_waiting, h_pl, h_pl_kinds, h_pl_differencesX, h_pl_differencesY, h_pl_owners, h_pl_kindCounts, h_pl_threads, h_FF, hn⟩ := hp
  replace hf := (if_neg (fun z => z ht0)).symm.trans hf
  subst hr1
  have h_out := (zO_keep h_out (hn 44 (by decide) (by decide) (by decide) (by decide) (by decide) (by decide) (by decide) (by decide) (by decide) (by decide)))
  refine lv_i2l hx hb dL_count_7 rfl ?_
  refine zlast hx hb hK hH hk_b h_out rfl dL_count_8 (fun σ2 H2 l2 h_out hn2 hH => ?_)
  have h_sp := (hn2 0 (by decide)).trans h_sp
  have h_sp_waiting := (hn2 2 (by decide)).trans h_sp_waiting
  have h_pl := (hn2 3 (by decide)).trans h_pl
  have h_pl_kinds := (hn2 4 (by decide)).trans h_pl_kinds
  have h_pl_differencesX := (hn2 5 (by decide)).trans h_pl_differencesX
  have h_pl_differencesY := (hn2 6 (by decide)).trans h_pl_differencesY
  have h_pl_owners := (hn2 7 (by decide)).trans h_pl_owners
  have h_pl_kindCounts := (hn2 8 (by decide)).trans h_pl_kindCounts
  have h_pl_threads := (hn2 9 (by decide)).trans h_pl_threads
  have h_FF := zFF_keep (fun i hi => hn2 i (by omega)) h_FF
  refine lv_goto (tgt := 15) hx hb dL_count_9 (by decide) ?_
  refine lv_iconst (v := zI 0) hx hb dL_count_15 (by decide +kernel) ?_
  cases hf
  exact zretW hx hb hr hlocks hQ hH ⟨rfl, h_sp, h_sp_waiting, h_pl, h_pl_kinds, h_pl_differencesX, h_pl_differencesY, h_pl_owners, h_pl_kindCounts, h_pl_threads, h_FF, h_out, fun i h46 a0 a1 a2 a3 a4 a5 a6 a7 a8 ab => (hn2 i ab).trans (hn i h46 a0 a1 a2 a3 a4 a5 a6 a7 a8)⟩ ⟨by decide, by decide⟩ dL_count_16
def f_L_thread (sp_waiting : Int → Int) (sp_trimBound : Int) (sp_planned : Int) (F_fd_colour : Int → Int) (F_fd_layer : Int → Int) (F_fd_column : Int → Int) (F_fd_cornerXs : Int → Int → Int) (F_fd_cornerYs : Int → Int → Int) (F_fd_crossings : Int → Int → Int) (F_fd_cornerCount : Int → Int) (F_fd_crossingCount : Int → Int) (F_fd_density : Int → Int) (F_fd_length : Int → Int) (F_fd_shift : Int → Int) (F_fd_pull : Int → Int) (F_fd_underlay : Int → Int) (F_fd_drawn : Int → Int) (F_pt_xs : Int → Int → Int) (F_pt_ys : Int → Int → Int) (F_pt_size : Int → Int) (pl_kinds : Int → Int) (pl_differencesX : Int → Int) (pl_differencesY : Int → Int) (pl_owners : Int → Int) (pl_kindCounts : Int → Int) (pl_threads : Int → Int) (pl_size : Int) (pl_seconds : UInt32) (pl_needleX : Int) (pl_needleY : Int) (pl_colour : Int) (nF : Int) (p1 : Int) (lw_out : Int) : Option (Int × (Int → Int) × Int × (Int → Int → Int) × (Int → Int) × (Int → Int) × (Int → Int → Int) × (Int → Int → Int) × (Int → Int) × (Int → Int) × (Int → Int) × (Int → Int) × (Int → Int) × (Int → Int) × (Int → Int) × Int × UInt32 × Int × Int × Int × Int) :=
  zb21 (f_X6_thread sp_waiting sp_trimBound sp_planned F_fd_colour F_fd_layer F_fd_column F_fd_cornerXs F_fd_cornerYs F_fd_crossings F_fd_cornerCount F_fd_crossingCount F_fd_density F_fd_length F_fd_shift F_fd_pull F_fd_underlay F_fd_drawn F_pt_xs F_pt_ys F_pt_size pl_kinds pl_differencesX pl_differencesY pl_owners pl_kindCounts pl_threads pl_size pl_seconds pl_needleX pl_needleY pl_colour nF p1) fun t r u0 u1 u2 u3 u4 u5 u6 u7 u8 u9 u10 u11 u12 u13 u14 u15 u16 u17 u18 =>
  if ¬ t = 0 then
    if t = 1 then some (1, u0, u1, u2, u3, u4, u5, u6, u7, u8, u9, u10, u11, u12, u13, u14, u15, u16, u17, u18, lw_out) else none
  else
    some (0, u0, u1, u2, u3, u4, u5, u6, u7, u8, u9, u10, u11, u12, u13, u14, u15, u16, u17, u18, r)
abbrev rmL_thread : Room := { frames := 8, cells := 1, slots := 6, locals := 188 }
theorem hd_L_thread : yL_thread.cls ≠ "java/lang/invoke/MethodHandle" ∧ yL_thread.cls ≠ "java/lang/invoke/VarHandle" ∧ (parseMethodDescriptor yL_thread.desc).map (fun d => d.parameters.length) = some 3 := by decide +kernel
set_option maxHeartbeats 4000000 in
set_option maxRecDepth 100000 in
theorem c_L_thread {l : Launch} {D : va_G} {cI cZ cF cL cD : ClassId} {ad : Nat → Nat} {N : Nat} (hI : ∀ i j, i < N → j < N → ad i = ad j → i = j) (hN : 46 ≤ N) {nF : Int} (hNF : N = 46 + 7 * nF.toNat) (hst : l.stackTraces = false) {σ0 : Nat → va_E} {sz : Nat} {sp_waiting : Int → Int} {sp_fieldCount : Int} {sp_trimBound : Int} {sp_planned : Int} {F_fd_colour : Int → Int} {F_fd_layer : Int → Int} {F_fd_column : Int → Int} {F_fd_cornerXs : Int → Int → Int} {F_fd_cornerYs : Int → Int → Int} {F_fd_crossings : Int → Int → Int} {F_fd_cornerCount : Int → Int} {F_fd_crossingCount : Int → Int} {F_fd_density : Int → Int} {F_fd_length : Int → Int} {F_fd_shift : Int → Int} {F_fd_pull : Int → Int} {F_fd_underlay : Int → Int} {F_fd_drawn : Int → Int} {F_pt_xs : Int → Int → Int} {F_pt_ys : Int → Int → Int} {F_pt_size : Int → Int} {pl_kinds : Int → Int} {pl_differencesX : Int → Int} {pl_differencesY : Int → Int} {pl_owners : Int → Int} {pl_kindCounts : Int → Int} {pl_threads : Int → Int} {pl_size : Int} {pl_seconds : UInt32} {pl_needleX : Int} {pl_needleY : Int} {pl_colour : Int} {p1 : Int} {lw_out : Int} {R0 : Int} {R_sp_waiting : Int → Int} {R_sp_planned : Int} {R_F_fd_crossings : Int → Int → Int} {R_F_fd_crossingCount : Int → Int} {R_F_fd_drawn : Int → Int} {R_F_pt_xs : Int → Int → Int} {R_F_pt_ys : Int → Int → Int} {R_F_pt_size : Int → Int} {R_pl_kinds : Int → Int} {R_pl_differencesX : Int → Int} {R_pl_differencesY : Int → Int} {R_pl_owners : Int → Int} {R_pl_kindCounts : Int → Int} {R_pl_threads : Int → Int} {R_pl_size : Int} {R_pl_seconds : UInt32} {R_pl_needleX : Int} {R_pl_needleY : Int} {R_pl_colour : Int} {R_lw_out : Int} (h_sp : σ0 0 = oC_sp ad sp_fieldCount sp_trimBound sp_planned) (h_sp_fields : σ0 1 = .inl (cF, 8, .inr (.inr (.inr (.inr (zFA ad nF)))))) (h_sp_waiting : σ0 2 = .inl (cZ, 8, .inl (zA sp_waiting))) (h_pl : σ0 3 = oC_pl ad pl_size pl_seconds pl_needleX pl_needleY pl_colour) (h_pl_kinds : σ0 4 = .inl (cI, 16641, .inl (zA pl_kinds))) (h_pl_differencesX : σ0 5 = .inl (cI, 16641, .inl (zA pl_differencesX))) (h_pl_differencesY : σ0 6 = .inl (cI, 16641, .inl (zA pl_differencesY))) (h_pl_owners : σ0 7 = .inl (cI, 16641, .inl (zA pl_owners))) (h_pl_kindCounts : σ0 8 = .inl (cI, 5, .inl (zA pl_kindCounts))) (h_pl_threads : σ0 9 = .inl (cI, 6, .inl (zA pl_threads))) (h_FF : zFF ad cI nF σ0 F_fd_colour F_fd_layer F_fd_column F_fd_cornerXs F_fd_cornerYs F_fd_crossings F_fd_cornerCount F_fd_crossingCount F_fd_density F_fd_length F_fd_shift F_fd_pull F_fd_underlay F_fd_drawn F_pt_xs F_pt_ys F_pt_size) (h_out : zO cL σ0 lw_out) (hf : f_L_thread sp_waiting sp_trimBound sp_planned F_fd_colour F_fd_layer F_fd_column F_fd_cornerXs F_fd_cornerYs F_fd_crossings F_fd_cornerCount F_fd_crossingCount F_fd_density F_fd_length F_fd_shift F_fd_pull F_fd_underlay F_fd_drawn F_pt_xs F_pt_ys F_pt_size pl_kinds pl_differencesX pl_differencesY pl_owners pl_kindCounts pl_threads pl_size pl_seconds pl_needleX pl_needleY pl_colour nF p1 lw_out = some (R0, R_sp_waiting, R_sp_planned, R_F_fd_crossings, R_F_fd_crossingCount, R_F_fd_drawn, R_F_pt_xs, R_F_pt_ys, R_F_pt_size, R_pl_kinds, R_pl_differencesX, R_pl_differencesY, R_pl_owners, R_pl_kindCounts, R_pl_threads, R_pl_size, R_pl_seconds, R_pl_needleX, R_pl_needleY, R_pl_colour, R_lw_out)) :
    Met l yL_thread (Cond.codeWith yL_thread cL_thread 4 (some .int) [(0, 9, 12, 13)] :: wsL_law) rmL_thread (zPreH D ad N (zT cI cZ cF cL cD) σ0 sz [.ref (ad 0), .int (zI p1), .ref (ad 44)]) (zQi D ad N sz (fun r σ' => r = zI R0 ∧ σ' 0 = oC_sp ad sp_fieldCount sp_trimBound R_sp_planned ∧ σ' 2 = .inl (cZ, 8, .inl (zA R_sp_waiting)) ∧ σ' 3 = oC_pl ad R_pl_size R_pl_seconds R_pl_needleX R_pl_needleY R_pl_colour ∧ σ' 4 = .inl (cI, 16641, .inl (zA R_pl_kinds)) ∧ σ' 5 = .inl (cI, 16641, .inl (zA R_pl_differencesX)) ∧ σ' 6 = .inl (cI, 16641, .inl (zA R_pl_differencesY)) ∧ σ' 7 = .inl (cI, 16641, .inl (zA R_pl_owners)) ∧ σ' 8 = .inl (cI, 5, .inl (zA R_pl_kindCounts)) ∧ σ' 9 = .inl (cI, 6, .inl (zA R_pl_threads)) ∧ zFF ad cI nF σ' F_fd_colour F_fd_layer F_fd_column F_fd_cornerXs F_fd_cornerYs R_F_fd_crossings F_fd_cornerCount R_F_fd_crossingCount F_fd_density F_fd_length F_fd_shift F_fd_pull F_fd_underlay R_F_fd_drawn R_F_pt_xs R_F_pt_ys R_F_pt_size ∧ zO cL σ' R_lw_out ∧ ∀ i : Nat, i < 46 → i ≠ 0 → i ≠ 2 → i ≠ 3 → i ≠ 4 → i ≠ 5 → i ≠ 6 → i ≠ 7 → i ≠ 8 → i ≠ 9 → i ≠ 44 → σ' i = σ0 i)) 1 6 (zFr ad N sz) := by
  refine zMetH hI (by decide) (Nat.le_of_ble_eq_true rfl) ?_
  intro p e s m args below meth c Q hx hb hr hlocks hml hown hts htab hK hX hNc hsz hQ hH hA ls hl
  subst hsz
  have hl : lv_has ls 4 [(0, .ref (ad 0)), (1, .int (zI p1)), (2, .ref (ad 44))] := hl
  have hk_sp : 0 < N := by omega
  have hk_b : 44 < N := by omega
  unfold f_L_thread at hf
  refine lv_aload_n hx hb dL_thread_0 rfl (lv_at hl 2 rfl) ?_
  refine lv_iconst (v := zI 0) hx hb dL_thread_1 (by decide +kernel) ?_
  refine lv_aload_n hx hb dL_thread_2 rfl (lv_at hl 0 rfl) ?_
  refine lv_iload_n hx hb dL_thread_3 rfl (lv_at hl 1 rfl) ?_
  obtain ⟨t, r, u0, u1, u2, u3, u4, u5, u6, u7, u8, u9, u10, u11, u12, u13, u14, u15, u16, u17, u18, k1, hf⟩ := zb21_some hf
  refine zxVi (C := RX6) (As := [.int (zI p1)]) (rest := [.int (zI 0), .ref (ad 44)]) hx hb hml hown hts hl.1 hK hH hA (hX.kept hH.2.2.2.1) (c_X6_thread hI hN hNF hst h_sp h_sp_fields h_sp_waiting h_pl h_pl_kinds h_pl_differencesX h_pl_differencesY h_pl_owners h_pl_kindCounts h_pl_threads h_FF k1) zk_t3_161 zk_t3_162 zk_t3_163 zk_t1_1 zk_t3_164 hd_X6_thread rfl ⟨rfl, rfl, Nat.le_of_ble_eq_true rfl, Nat.le_of_ble_eq_true rfl⟩ ⟨by decide, by decide⟩ hk_sp h_sp rfl rfl rfl (Nat.le_of_ble_eq_true rfl) dL_thread_4 (fun E ce q9 σ1 H1 l1 hp hE hH hce hcv hcl => ?_) (fun q1 σ1 H1 l1 hp hH => ?_)
  · replace hf := (if_pos (zEx_ne hE)).symm.trans hf
    obtain ⟨h_sp, h_sp_waiting, h_pl, h_pl_kinds, h_pl_differencesX, h_pl_differencesY, h_pl_owners, h_pl_kindCounts, h_pl_threads, h_FF, hn⟩ := hp
    have hE0 := hE
    rcases hE0 with ⟨rfl, ht⟩ | ⟨rfl, ht⟩ | ⟨rfl, ht⟩
    · subst ht
      refine vx_catch hown [] ⟨0, 9, 12, 13⟩ [] htab (fun z hz => nomatch hz) (by decide) (by decide) (hts _ zk_t2_123) (zcast hX zcb_1) hce hcv hcl ?_
      refine lv_astore_n (lv' := [(3, .ref q9), (0, .ref (ad 0)), (1, .int (zI p1)), (2, .ref (ad 44))]) hx hb dL_thread_12 rfl hl (by decide) rfl (fun ls hl => ?_)
      refine lv_iconst (v := zI 1) hx hb dL_thread_13 (by decide +kernel) ?_
      cases hf
      exact zretW hx hb hr hlocks hQ hH ⟨rfl, h_sp, h_sp_waiting, h_pl, h_pl_kinds, h_pl_differencesX, h_pl_differencesY, h_pl_owners, h_pl_kindCounts, h_pl_threads, h_FF, (zO_keep h_out (hn 44 (by decide) (by decide) (by decide) (by decide) (by decide) (by decide) (by decide) (by decide) (by decide) (by decide))), fun i h46 a0 a1 a2 a3 a4 a5 a6 a7 a8 ab => hn i h46 a0 a1 a2 a3 a4 a5 a6 a7 a8⟩ ⟨by decide, by decide⟩ dL_thread_14
    · subst ht
      exact absurd hf (by simp)
    · subst ht
      exact absurd hf (by simp)
  obtain ⟨ht0, hr1, h_sp, h_sp_waiting, h_pl, h_pl_kinds, h_pl_differencesX, h_pl_differencesY, h_pl_owners, h_pl_kindCounts, h_pl_threads, h_FF, hn⟩ := hp
  replace hf := (if_neg (fun z => z ht0)).symm.trans hf
  subst hr1
  have h_out := (zO_keep h_out (hn 44 (by decide) (by decide) (by decide) (by decide) (by decide) (by decide) (by decide) (by decide) (by decide) (by decide)))
  refine lv_i2l hx hb dL_thread_7 rfl ?_
  refine zlast hx hb hK hH hk_b h_out rfl dL_thread_8 (fun σ2 H2 l2 h_out hn2 hH => ?_)
  have h_sp := (hn2 0 (by decide)).trans h_sp
  have h_sp_waiting := (hn2 2 (by decide)).trans h_sp_waiting
  have h_pl := (hn2 3 (by decide)).trans h_pl
  have h_pl_kinds := (hn2 4 (by decide)).trans h_pl_kinds
  have h_pl_differencesX := (hn2 5 (by decide)).trans h_pl_differencesX
  have h_pl_differencesY := (hn2 6 (by decide)).trans h_pl_differencesY
  have h_pl_owners := (hn2 7 (by decide)).trans h_pl_owners
  have h_pl_kindCounts := (hn2 8 (by decide)).trans h_pl_kindCounts
  have h_pl_threads := (hn2 9 (by decide)).trans h_pl_threads
  have h_FF := zFF_keep (fun i hi => hn2 i (by omega)) h_FF
  refine lv_goto (tgt := 15) hx hb dL_thread_9 (by decide) ?_
  refine lv_iconst (v := zI 0) hx hb dL_thread_15 (by decide +kernel) ?_
  cases hf
  exact zretW hx hb hr hlocks hQ hH ⟨rfl, h_sp, h_sp_waiting, h_pl, h_pl_kinds, h_pl_differencesX, h_pl_differencesY, h_pl_owners, h_pl_kindCounts, h_pl_threads, h_FF, h_out, fun i h46 a0 a1 a2 a3 a4 a5 a6 a7 a8 ab => (hn2 i ab).trans (hn i h46 a0 a1 a2 a3 a4 a5 a6 a7 a8)⟩ ⟨by decide, by decide⟩ dL_thread_16
def f_L_covered (sp_fieldCount : Int) (F_fd_column : Int → Int) (F_fd_cornerXs : Int → Int → Int) (F_fd_cornerYs : Int → Int → Int) (F_fd_crossings : Int → Int → Int) (F_fd_cornerCount : Int → Int) (F_fd_crossingCount : Int → Int) (F_fd_density : Int → Int) (F_fd_length : Int → Int) (F_fd_shift : Int → Int) (F_fd_pull : Int → Int) (F_fd_underlay : Int → Int) (F_fd_drawn : Int → Int) (F_pt_xs : Int → Int → Int) (F_pt_ys : Int → Int → Int) (F_pt_size : Int → Int) (ra_cells : Int → Int) (ra_cellCount : Int) (nF : Int) (p1 : Int) (lw_outD : UInt64) : Option (Int × (Int → Int → Int) × (Int → Int) × (Int → Int) × (Int → Int → Int) × (Int → Int → Int) × (Int → Int) × (Int → Int) × Int × UInt64) :=
  zb10 (f_X6_covered sp_fieldCount F_fd_column F_fd_cornerXs F_fd_cornerYs F_fd_crossings F_fd_cornerCount F_fd_crossingCount F_fd_density F_fd_length F_fd_shift F_fd_pull F_fd_underlay F_fd_drawn F_pt_xs F_pt_ys F_pt_size ra_cells ra_cellCount nF p1) fun t r u0 u1 u2 u3 u4 u5 u6 u7 =>
  if ¬ t = 0 then
    if t = 3 then some (1, u0, u1, u2, u3, u4, u5, u6, u7, lw_outD) else none
  else
    zck (zn64 (FP.f2d r)) <|
    some (0, u0, u1, u2, u3, u4, u5, u6, u7, FP.f2d r)
abbrev rmL_covered : Room := { frames := 8, cells := 1, slots := 6, locals := 136 }
theorem hd_L_covered : yL_covered.cls ≠ "java/lang/invoke/MethodHandle" ∧ yL_covered.cls ≠ "java/lang/invoke/VarHandle" ∧ (parseMethodDescriptor yL_covered.desc).map (fun d => d.parameters.length) = some 3 := by decide +kernel
set_option maxHeartbeats 4000000 in
set_option maxRecDepth 100000 in
theorem c_L_covered {l : Launch} {D : va_G} {cI cZ cF cL cD : ClassId} {ad : Nat → Nat} {N : Nat} (hI : ∀ i j, i < N → j < N → ad i = ad j → i = j) (hN : 46 ≤ N) {nF : Int} (hNF : N = 46 + 7 * nF.toNat) (hst : l.stackTraces = false) {σ0 : Nat → va_E} {sz : Nat} {sp_fieldCount : Int} {sp_trimBound : Int} {sp_planned : Int} {F_fd_colour : Int → Int} {F_fd_layer : Int → Int} {F_fd_column : Int → Int} {F_fd_cornerXs : Int → Int → Int} {F_fd_cornerYs : Int → Int → Int} {F_fd_crossings : Int → Int → Int} {F_fd_cornerCount : Int → Int} {F_fd_crossingCount : Int → Int} {F_fd_density : Int → Int} {F_fd_length : Int → Int} {F_fd_shift : Int → Int} {F_fd_pull : Int → Int} {F_fd_underlay : Int → Int} {F_fd_drawn : Int → Int} {F_pt_xs : Int → Int → Int} {F_pt_ys : Int → Int → Int} {F_pt_size : Int → Int} {ra_cells : Int → Int} {ra_cellCount : Int} {p1 : Int} {lw_outD : UInt64} {R0 : Int} {R_F_fd_crossings : Int → Int → Int} {R_F_fd_crossingCount : Int → Int} {R_F_fd_drawn : Int → Int} {R_F_pt_xs : Int → Int → Int} {R_F_pt_ys : Int → Int → Int} {R_F_pt_size : Int → Int} {R_ra_cells : Int → Int} {R_ra_cellCount : Int} {R_lw_outD : UInt64} (h_sp : σ0 0 = oC_sp ad sp_fieldCount sp_trimBound sp_planned) (h_sp_fields : σ0 1 = .inl (cF, 8, .inr (.inr (.inr (.inr (zFA ad nF)))))) (h_ra : σ0 10 = oC_ra ad ra_cellCount) (h_ra_cells : σ0 11 = .inl (cZ, 1024, .inl (zA ra_cells))) (h_FF : zFF ad cI nF σ0 F_fd_colour F_fd_layer F_fd_column F_fd_cornerXs F_fd_cornerYs F_fd_crossings F_fd_cornerCount F_fd_crossingCount F_fd_density F_fd_length F_fd_shift F_fd_pull F_fd_underlay F_fd_drawn F_pt_xs F_pt_ys F_pt_size) (h_out : zOD cD σ0 lw_outD) (hf : f_L_covered sp_fieldCount F_fd_column F_fd_cornerXs F_fd_cornerYs F_fd_crossings F_fd_cornerCount F_fd_crossingCount F_fd_density F_fd_length F_fd_shift F_fd_pull F_fd_underlay F_fd_drawn F_pt_xs F_pt_ys F_pt_size ra_cells ra_cellCount nF p1 lw_outD = some (R0, R_F_fd_crossings, R_F_fd_crossingCount, R_F_fd_drawn, R_F_pt_xs, R_F_pt_ys, R_F_pt_size, R_ra_cells, R_ra_cellCount, R_lw_outD)) :
    Met l yL_covered (Cond.codeWith yL_covered cL_covered 4 (some .int) [(0, 9, 12, 21)] :: wsL_law) rmL_covered (zPreH D ad N (zT cI cZ cF cL cD) σ0 sz [.ref (ad 0), .int (zI p1), .ref (ad 45)]) (zQi D ad N sz (fun r σ' => r = zI R0 ∧ σ' 10 = oC_ra ad R_ra_cellCount ∧ σ' 11 = .inl (cZ, 1024, .inl (zA R_ra_cells)) ∧ zFF ad cI nF σ' F_fd_colour F_fd_layer F_fd_column F_fd_cornerXs F_fd_cornerYs R_F_fd_crossings F_fd_cornerCount R_F_fd_crossingCount F_fd_density F_fd_length F_fd_shift F_fd_pull F_fd_underlay R_F_fd_drawn R_F_pt_xs R_F_pt_ys R_F_pt_size ∧ zOD cD σ' R_lw_outD ∧ ∀ i : Nat, i < 46 → i ≠ 10 → i ≠ 11 → i ≠ 45 → σ' i = σ0 i)) 1 6 (zFr ad N sz) := by
  refine zMetH hI (by decide) (Nat.le_of_ble_eq_true rfl) ?_
  intro p e s m args below meth c Q hx hb hr hlocks hml hown hts htab hK hX hNc hsz hQ hH hA ls hl
  subst hsz
  have hl : lv_has ls 4 [(0, .ref (ad 0)), (1, .int (zI p1)), (2, .ref (ad 45))] := hl
  have hk_sp : 0 < N := by omega
  have hk_b : 45 < N := by omega
  unfold f_L_covered at hf
  refine lv_aload_n hx hb dL_covered_0 rfl (lv_at hl 2 rfl) ?_
  refine lv_iconst (v := zI 0) hx hb dL_covered_1 (by decide +kernel) ?_
  refine lv_aload_n hx hb dL_covered_2 rfl (lv_at hl 0 rfl) ?_
  refine lv_iload_n hx hb dL_covered_3 rfl (lv_at hl 1 rfl) ?_
  obtain ⟨t, r, u0, u1, u2, u3, u4, u5, u6, u7, k1, hf⟩ := zb10_some hf
  refine zxVf (C := RX6) (As := [.int (zI p1)]) (rest := [.int (zI 0), .ref (ad 45)]) hx hb hml hown hts hl.1 hK hH hA (hX.kept hH.2.2.2.1) (c_X6_covered hI hN hNF hst h_sp h_sp_fields h_ra h_ra_cells h_FF k1) zk_t3_168 zk_t3_169 zk_t3_170 zk_t1_1 zk_t3_171 hd_X6_covered rfl ⟨rfl, rfl, Nat.le_of_ble_eq_true rfl, Nat.le_of_ble_eq_true rfl⟩ ⟨by decide, by decide⟩ hk_sp h_sp rfl rfl rfl (Nat.le_of_ble_eq_true rfl) dL_covered_4 (fun E ce q9 σ1 H1 l1 hp hE hH hce hcv hcl => ?_) (fun q1 σ1 H1 l1 hp hH => ?_)
  · replace hf := (if_pos (zEx_ne hE)).symm.trans hf
    obtain ⟨h_ra, h_ra_cells, h_FF, hn⟩ := hp
    have hE0 := hE
    rcases hE0 with ⟨rfl, ht⟩ | ⟨rfl, ht⟩ | ⟨rfl, ht⟩
    · subst ht
      exact absurd hf (by simp)
    · subst ht
      exact absurd hf (by simp)
    · subst ht
      refine vx_catch hown [] ⟨0, 9, 12, 21⟩ [] htab (fun z hz => nomatch hz) (by decide) (by decide) (hts _ zk_t3_62) (zcast hX zcb_3) hce hcv hcl ?_
      refine lv_astore_n (lv' := [(3, .ref q9), (0, .ref (ad 0)), (1, .int (zI p1)), (2, .ref (ad 45))]) hx hb dL_covered_12 rfl hl (by decide) rfl (fun ls hl => ?_)
      refine lv_iconst (v := zI 1) hx hb dL_covered_13 (by decide +kernel) ?_
      cases hf
      exact zretW hx hb hr hlocks hQ hH ⟨rfl, h_ra, h_ra_cells, h_FF, (zOD_keep h_out (hn 45 (by decide) (by decide) (by decide))), fun i h46 a0 a1 ab => hn i h46 a0 a1⟩ ⟨by decide, by decide⟩ dL_covered_14
  obtain ⟨ht0, hr1, h_ra, h_ra_cells, h_FF, hn⟩ := hp
  replace hf := (if_neg (fun z => z ht0)).symm.trans hf
  subst hr1
  have h_out := (zOD_keep h_out (hn 45 (by decide) (by decide) (by decide)))
  obtain ⟨k2, hf⟩ := zck_some hf
  refine lv_f2d hx hb dL_covered_7 k2 ?_
  refine zdast hx hb hK hH hk_b h_out rfl dL_covered_8 (fun σ2 H2 l2 h_out hn2 hH => ?_)
  have h_ra := (hn2 10 (by decide)).trans h_ra
  have h_ra_cells := (hn2 11 (by decide)).trans h_ra_cells
  have h_FF := zFF_keep (fun i hi => hn2 i (by omega)) h_FF
  refine lv_goto (tgt := 15) hx hb dL_covered_9 (by decide) ?_
  refine lv_iconst (v := zI 0) hx hb dL_covered_15 (by decide +kernel) ?_
  cases hf
  exact zretW hx hb hr hlocks hQ hH ⟨rfl, h_ra, h_ra_cells, h_FF, h_out, fun i h46 a0 a1 ab => (hn2 i ab).trans (hn i h46 a0 a1)⟩ ⟨by decide, by decide⟩ dL_covered_16
def f_L_touched (sp_fieldCount : Int) (F_fd_column : Int → Int) (F_fd_cornerXs : Int → Int → Int) (F_fd_cornerYs : Int → Int → Int) (F_fd_crossings : Int → Int → Int) (F_fd_cornerCount : Int → Int) (F_fd_crossingCount : Int → Int) (F_fd_density : Int → Int) (F_fd_length : Int → Int) (F_fd_shift : Int → Int) (F_fd_pull : Int → Int) (F_fd_underlay : Int → Int) (F_fd_drawn : Int → Int) (F_pt_xs : Int → Int → Int) (F_pt_ys : Int → Int → Int) (F_pt_size : Int → Int) (ra_cells : Int → Int) (ra_cellCount : Int) (nF : Int) (p1 : Int) (lw_out : Int) : Option (Int × (Int → Int → Int) × (Int → Int) × (Int → Int) × (Int → Int → Int) × (Int → Int → Int) × (Int → Int) × (Int → Int) × Int × Int) :=
  zb10 (f_X6_touched sp_fieldCount F_fd_column F_fd_cornerXs F_fd_cornerYs F_fd_crossings F_fd_cornerCount F_fd_crossingCount F_fd_density F_fd_length F_fd_shift F_fd_pull F_fd_underlay F_fd_drawn F_pt_xs F_pt_ys F_pt_size ra_cells ra_cellCount nF p1) fun t r u0 u1 u2 u3 u4 u5 u6 u7 =>
  if ¬ t = 0 then
    if t = 3 then some (1, u0, u1, u2, u3, u4, u5, u6, u7, lw_out) else none
  else
    some (0, u0, u1, u2, u3, u4, u5, u6, u7, r)
abbrev rmL_touched : Room := { frames := 8, cells := 1, slots := 6, locals := 136 }
theorem hd_L_touched : yL_touched.cls ≠ "java/lang/invoke/MethodHandle" ∧ yL_touched.cls ≠ "java/lang/invoke/VarHandle" ∧ (parseMethodDescriptor yL_touched.desc).map (fun d => d.parameters.length) = some 3 := by decide +kernel
set_option maxHeartbeats 4000000 in
set_option maxRecDepth 100000 in
theorem c_L_touched {l : Launch} {D : va_G} {cI cZ cF cL cD : ClassId} {ad : Nat → Nat} {N : Nat} (hI : ∀ i j, i < N → j < N → ad i = ad j → i = j) (hN : 46 ≤ N) {nF : Int} (hNF : N = 46 + 7 * nF.toNat) (hst : l.stackTraces = false) {σ0 : Nat → va_E} {sz : Nat} {sp_fieldCount : Int} {sp_trimBound : Int} {sp_planned : Int} {F_fd_colour : Int → Int} {F_fd_layer : Int → Int} {F_fd_column : Int → Int} {F_fd_cornerXs : Int → Int → Int} {F_fd_cornerYs : Int → Int → Int} {F_fd_crossings : Int → Int → Int} {F_fd_cornerCount : Int → Int} {F_fd_crossingCount : Int → Int} {F_fd_density : Int → Int} {F_fd_length : Int → Int} {F_fd_shift : Int → Int} {F_fd_pull : Int → Int} {F_fd_underlay : Int → Int} {F_fd_drawn : Int → Int} {F_pt_xs : Int → Int → Int} {F_pt_ys : Int → Int → Int} {F_pt_size : Int → Int} {ra_cells : Int → Int} {ra_cellCount : Int} {p1 : Int} {lw_out : Int} {R0 : Int} {R_F_fd_crossings : Int → Int → Int} {R_F_fd_crossingCount : Int → Int} {R_F_fd_drawn : Int → Int} {R_F_pt_xs : Int → Int → Int} {R_F_pt_ys : Int → Int → Int} {R_F_pt_size : Int → Int} {R_ra_cells : Int → Int} {R_ra_cellCount : Int} {R_lw_out : Int} (h_sp : σ0 0 = oC_sp ad sp_fieldCount sp_trimBound sp_planned) (h_sp_fields : σ0 1 = .inl (cF, 8, .inr (.inr (.inr (.inr (zFA ad nF)))))) (h_ra : σ0 10 = oC_ra ad ra_cellCount) (h_ra_cells : σ0 11 = .inl (cZ, 1024, .inl (zA ra_cells))) (h_FF : zFF ad cI nF σ0 F_fd_colour F_fd_layer F_fd_column F_fd_cornerXs F_fd_cornerYs F_fd_crossings F_fd_cornerCount F_fd_crossingCount F_fd_density F_fd_length F_fd_shift F_fd_pull F_fd_underlay F_fd_drawn F_pt_xs F_pt_ys F_pt_size) (h_out : zO cL σ0 lw_out) (hf : f_L_touched sp_fieldCount F_fd_column F_fd_cornerXs F_fd_cornerYs F_fd_crossings F_fd_cornerCount F_fd_crossingCount F_fd_density F_fd_length F_fd_shift F_fd_pull F_fd_underlay F_fd_drawn F_pt_xs F_pt_ys F_pt_size ra_cells ra_cellCount nF p1 lw_out = some (R0, R_F_fd_crossings, R_F_fd_crossingCount, R_F_fd_drawn, R_F_pt_xs, R_F_pt_ys, R_F_pt_size, R_ra_cells, R_ra_cellCount, R_lw_out)) :
    Met l yL_touched (Cond.codeWith yL_touched cL_touched 4 (some .int) [(0, 9, 12, 21)] :: wsL_law) rmL_touched (zPreH D ad N (zT cI cZ cF cL cD) σ0 sz [.ref (ad 0), .int (zI p1), .ref (ad 44)]) (zQi D ad N sz (fun r σ' => r = zI R0 ∧ σ' 10 = oC_ra ad R_ra_cellCount ∧ σ' 11 = .inl (cZ, 1024, .inl (zA R_ra_cells)) ∧ zFF ad cI nF σ' F_fd_colour F_fd_layer F_fd_column F_fd_cornerXs F_fd_cornerYs R_F_fd_crossings F_fd_cornerCount R_F_fd_crossingCount F_fd_density F_fd_length F_fd_shift F_fd_pull F_fd_underlay R_F_fd_drawn R_F_pt_xs R_F_pt_ys R_F_pt_size ∧ zO cL σ' R_lw_out ∧ ∀ i : Nat, i < 46 → i ≠ 10 → i ≠ 11 → i ≠ 44 → σ' i = σ0 i)) 1 6 (zFr ad N sz) := by
  refine zMetH hI (by decide) (Nat.le_of_ble_eq_true rfl) ?_
  intro p e s m args below meth c Q hx hb hr hlocks hml hown hts htab hK hX hNc hsz hQ hH hA ls hl
  subst hsz
  have hl : lv_has ls 4 [(0, .ref (ad 0)), (1, .int (zI p1)), (2, .ref (ad 44))] := hl
  have hk_sp : 0 < N := by omega
  have hk_b : 44 < N := by omega
  unfold f_L_touched at hf
  refine lv_aload_n hx hb dL_touched_0 rfl (lv_at hl 2 rfl) ?_
  refine lv_iconst (v := zI 0) hx hb dL_touched_1 (by decide +kernel) ?_
  refine lv_aload_n hx hb dL_touched_2 rfl (lv_at hl 0 rfl) ?_
  refine lv_iload_n hx hb dL_touched_3 rfl (lv_at hl 1 rfl) ?_
  obtain ⟨t, r, u0, u1, u2, u3, u4, u5, u6, u7, k1, hf⟩ := zb10_some hf
  refine zxVi (C := RX6) (As := [.int (zI p1)]) (rest := [.int (zI 0), .ref (ad 44)]) hx hb hml hown hts hl.1 hK hH hA (hX.kept hH.2.2.2.1) (c_X6_touched hI hN hNF hst h_sp h_sp_fields h_ra h_ra_cells h_FF k1) zk_t3_207 zk_t3_208 zk_t3_209 zk_t1_1 zk_t3_210 hd_X6_touched rfl ⟨rfl, rfl, Nat.le_of_ble_eq_true rfl, Nat.le_of_ble_eq_true rfl⟩ ⟨by decide, by decide⟩ hk_sp h_sp rfl rfl rfl (Nat.le_of_ble_eq_true rfl) dL_touched_4 (fun E ce q9 σ1 H1 l1 hp hE hH hce hcv hcl => ?_) (fun q1 σ1 H1 l1 hp hH => ?_)
  · replace hf := (if_pos (zEx_ne hE)).symm.trans hf
    obtain ⟨h_ra, h_ra_cells, h_FF, hn⟩ := hp
    have hE0 := hE
    rcases hE0 with ⟨rfl, ht⟩ | ⟨rfl, ht⟩ | ⟨rfl, ht⟩
    · subst ht
      exact absurd hf (by simp)
    · subst ht
      exact absurd hf (by simp)
    · subst ht
      refine vx_catch hown [] ⟨0, 9, 12, 21⟩ [] htab (fun z hz => nomatch hz) (by decide) (by decide) (hts _ zk_t3_62) (zcast hX zcb_3) hce hcv hcl ?_
      refine lv_astore_n (lv' := [(3, .ref q9), (0, .ref (ad 0)), (1, .int (zI p1)), (2, .ref (ad 44))]) hx hb dL_touched_12 rfl hl (by decide) rfl (fun ls hl => ?_)
      refine lv_iconst (v := zI 1) hx hb dL_touched_13 (by decide +kernel) ?_
      cases hf
      exact zretW hx hb hr hlocks hQ hH ⟨rfl, h_ra, h_ra_cells, h_FF, (zO_keep h_out (hn 44 (by decide) (by decide) (by decide))), fun i h46 a0 a1 ab => hn i h46 a0 a1⟩ ⟨by decide, by decide⟩ dL_touched_14
  obtain ⟨ht0, hr1, h_ra, h_ra_cells, h_FF, hn⟩ := hp
  replace hf := (if_neg (fun z => z ht0)).symm.trans hf
  subst hr1
  have h_out := (zO_keep h_out (hn 44 (by decide) (by decide) (by decide)))
  refine lv_i2l hx hb dL_touched_7 rfl ?_
  refine zlast hx hb hK hH hk_b h_out rfl dL_touched_8 (fun σ2 H2 l2 h_out hn2 hH => ?_)
  have h_ra := (hn2 10 (by decide)).trans h_ra
  have h_ra_cells := (hn2 11 (by decide)).trans h_ra_cells
  have h_FF := zFF_keep (fun i hi => hn2 i (by omega)) h_FF
  refine lv_goto (tgt := 15) hx hb dL_touched_9 (by decide) ?_
  refine lv_iconst (v := zI 0) hx hb dL_touched_15 (by decide +kernel) ?_
  cases hf
  exact zretW hx hb hr hlocks hQ hH ⟨rfl, h_ra, h_ra_cells, h_FF, h_out, fun i h46 a0 a1 ab => (hn2 i ab).trans (hn i h46 a0 a1)⟩ ⟨by decide, by decide⟩ dL_touched_16
def f_L_write (sp_waiting : Int → Int) (sp_trimBound : Int) (sp_planned : Int) (F_fd_colour : Int → Int) (F_fd_layer : Int → Int) (F_fd_column : Int → Int) (F_fd_cornerXs : Int → Int → Int) (F_fd_cornerYs : Int → Int → Int) (F_fd_crossings : Int → Int → Int) (F_fd_cornerCount : Int → Int) (F_fd_crossingCount : Int → Int) (F_fd_density : Int → Int) (F_fd_length : Int → Int) (F_fd_shift : Int → Int) (F_fd_pull : Int → Int) (F_fd_underlay : Int → Int) (F_fd_drawn : Int → Int) (F_pt_xs : Int → Int → Int) (F_pt_ys : Int → Int → Int) (F_pt_size : Int → Int) (pl_kinds : Int → Int) (pl_differencesX : Int → Int) (pl_differencesY : Int → Int) (pl_owners : Int → Int) (pl_kindCounts : Int → Int) (pl_threads : Int → Int) (pl_size : Int) (pl_seconds : UInt32) (pl_needleX : Int) (pl_needleY : Int) (pl_colour : Int) (pa_bytes : Int → Int) (pa_size : Int) (pa_format : Int) (nF : Int) (p1 : Int) (lw_out : Int) : Option (Int × (Int → Int) × Int × (Int → Int → Int) × (Int → Int) × (Int → Int) × (Int → Int → Int) × (Int → Int → Int) × (Int → Int) × (Int → Int) × (Int → Int) × (Int → Int) × (Int → Int) × (Int → Int) × (Int → Int) × Int × UInt32 × Int × Int × Int × (Int → Int) × Int × Int × Int) :=
  zb24 (f_X6_write sp_waiting sp_trimBound sp_planned F_fd_colour F_fd_layer F_fd_column F_fd_cornerXs F_fd_cornerYs F_fd_crossings F_fd_cornerCount F_fd_crossingCount F_fd_density F_fd_length F_fd_shift F_fd_pull F_fd_underlay F_fd_drawn F_pt_xs F_pt_ys F_pt_size pl_kinds pl_differencesX pl_differencesY pl_owners pl_kindCounts pl_threads pl_size pl_seconds pl_needleX pl_needleY pl_colour pa_bytes pa_size pa_format nF p1) fun t r u0 u1 u2 u3 u4 u5 u6 u7 u8 u9 u10 u11 u12 u13 u14 u15 u16 u17 u18 u19 u20 u21 =>
  if ¬ t = 0 then
    if t = 1 then some (1, u0, u1, u2, u3, u4, u5, u6, u7, u8, u9, u10, u11, u12, u13, u14, u15, u16, u17, u18, u19, u20, u21, lw_out) else none
  else
    some (0, u0, u1, u2, u3, u4, u5, u6, u7, u8, u9, u10, u11, u12, u13, u14, u15, u16, u17, u18, u19, u20, u21, r)
abbrev rmL_write : Room := { frames := 8, cells := 1, slots := 6, locals := 188 }
theorem hd_L_write : yL_write.cls ≠ "java/lang/invoke/MethodHandle" ∧ yL_write.cls ≠ "java/lang/invoke/VarHandle" ∧ (parseMethodDescriptor yL_write.desc).map (fun d => d.parameters.length) = some 3 := by decide +kernel
set_option maxHeartbeats 4000000 in
set_option maxRecDepth 100000 in
theorem c_L_write {l : Launch} {D : va_G} {cI cZ cF cL cD : ClassId} {ad : Nat → Nat} {N : Nat} (hI : ∀ i j, i < N → j < N → ad i = ad j → i = j) (hN : 46 ≤ N) {nF : Int} (hNF : N = 46 + 7 * nF.toNat) (hst : l.stackTraces = false) {σ0 : Nat → va_E} {sz : Nat} {sp_waiting : Int → Int} {sp_fieldCount : Int} {sp_trimBound : Int} {sp_planned : Int} {F_fd_colour : Int → Int} {F_fd_layer : Int → Int} {F_fd_column : Int → Int} {F_fd_cornerXs : Int → Int → Int} {F_fd_cornerYs : Int → Int → Int} {F_fd_crossings : Int → Int → Int} {F_fd_cornerCount : Int → Int} {F_fd_crossingCount : Int → Int} {F_fd_density : Int → Int} {F_fd_length : Int → Int} {F_fd_shift : Int → Int} {F_fd_pull : Int → Int} {F_fd_underlay : Int → Int} {F_fd_drawn : Int → Int} {F_pt_xs : Int → Int → Int} {F_pt_ys : Int → Int → Int} {F_pt_size : Int → Int} {pl_kinds : Int → Int} {pl_differencesX : Int → Int} {pl_differencesY : Int → Int} {pl_owners : Int → Int} {pl_kindCounts : Int → Int} {pl_threads : Int → Int} {pl_size : Int} {pl_seconds : UInt32} {pl_needleX : Int} {pl_needleY : Int} {pl_colour : Int} {pa_bytes : Int → Int} {pa_size : Int} {pa_format : Int} {pa_faultPlace : Int} {pa_stitchesRead : Int} {p1 : Int} {lw_out : Int} {R0 : Int} {R_sp_waiting : Int → Int} {R_sp_planned : Int} {R_F_fd_crossings : Int → Int → Int} {R_F_fd_crossingCount : Int → Int} {R_F_fd_drawn : Int → Int} {R_F_pt_xs : Int → Int → Int} {R_F_pt_ys : Int → Int → Int} {R_F_pt_size : Int → Int} {R_pl_kinds : Int → Int} {R_pl_differencesX : Int → Int} {R_pl_differencesY : Int → Int} {R_pl_owners : Int → Int} {R_pl_kindCounts : Int → Int} {R_pl_threads : Int → Int} {R_pl_size : Int} {R_pl_seconds : UInt32} {R_pl_needleX : Int} {R_pl_needleY : Int} {R_pl_colour : Int} {R_pa_bytes : Int → Int} {R_pa_size : Int} {R_pa_format : Int} {R_lw_out : Int} (h_sp : σ0 0 = oC_sp ad sp_fieldCount sp_trimBound sp_planned) (h_sp_fields : σ0 1 = .inl (cF, 8, .inr (.inr (.inr (.inr (zFA ad nF)))))) (h_sp_waiting : σ0 2 = .inl (cZ, 8, .inl (zA sp_waiting))) (h_pl : σ0 3 = oC_pl ad pl_size pl_seconds pl_needleX pl_needleY pl_colour) (h_pl_kinds : σ0 4 = .inl (cI, 16641, .inl (zA pl_kinds))) (h_pl_differencesX : σ0 5 = .inl (cI, 16641, .inl (zA pl_differencesX))) (h_pl_differencesY : σ0 6 = .inl (cI, 16641, .inl (zA pl_differencesY))) (h_pl_owners : σ0 7 = .inl (cI, 16641, .inl (zA pl_owners))) (h_pl_kindCounts : σ0 8 = .inl (cI, 5, .inl (zA pl_kindCounts))) (h_pl_threads : σ0 9 = .inl (cI, 6, .inl (zA pl_threads))) (h_pa : σ0 12 = oC_pa ad pa_size pa_format pa_faultPlace pa_stitchesRead) (h_pa_bytes : σ0 13 = .inl (cI, 49924, .inl (zA pa_bytes))) (h_FF : zFF ad cI nF σ0 F_fd_colour F_fd_layer F_fd_column F_fd_cornerXs F_fd_cornerYs F_fd_crossings F_fd_cornerCount F_fd_crossingCount F_fd_density F_fd_length F_fd_shift F_fd_pull F_fd_underlay F_fd_drawn F_pt_xs F_pt_ys F_pt_size) (h_out : zO cL σ0 lw_out) (hf : f_L_write sp_waiting sp_trimBound sp_planned F_fd_colour F_fd_layer F_fd_column F_fd_cornerXs F_fd_cornerYs F_fd_crossings F_fd_cornerCount F_fd_crossingCount F_fd_density F_fd_length F_fd_shift F_fd_pull F_fd_underlay F_fd_drawn F_pt_xs F_pt_ys F_pt_size pl_kinds pl_differencesX pl_differencesY pl_owners pl_kindCounts pl_threads pl_size pl_seconds pl_needleX pl_needleY pl_colour pa_bytes pa_size pa_format nF p1 lw_out = some (R0, R_sp_waiting, R_sp_planned, R_F_fd_crossings, R_F_fd_crossingCount, R_F_fd_drawn, R_F_pt_xs, R_F_pt_ys, R_F_pt_size, R_pl_kinds, R_pl_differencesX, R_pl_differencesY, R_pl_owners, R_pl_kindCounts, R_pl_threads, R_pl_size, R_pl_seconds, R_pl_needleX, R_pl_needleY, R_pl_colour, R_pa_bytes, R_pa_size, R_pa_format, R_lw_out)) :
    Met l yL_write (Cond.codeWith yL_write cL_write 4 (some .int) [(0, 9, 12, 13)] :: wsL_law) rmL_write (zPreH D ad N (zT cI cZ cF cL cD) σ0 sz [.ref (ad 0), .int (zI p1), .ref (ad 44)]) (zQi D ad N sz (fun r σ' => r = zI R0 ∧ σ' 0 = oC_sp ad sp_fieldCount sp_trimBound R_sp_planned ∧ σ' 2 = .inl (cZ, 8, .inl (zA R_sp_waiting)) ∧ σ' 3 = oC_pl ad R_pl_size R_pl_seconds R_pl_needleX R_pl_needleY R_pl_colour ∧ σ' 4 = .inl (cI, 16641, .inl (zA R_pl_kinds)) ∧ σ' 5 = .inl (cI, 16641, .inl (zA R_pl_differencesX)) ∧ σ' 6 = .inl (cI, 16641, .inl (zA R_pl_differencesY)) ∧ σ' 7 = .inl (cI, 16641, .inl (zA R_pl_owners)) ∧ σ' 8 = .inl (cI, 5, .inl (zA R_pl_kindCounts)) ∧ σ' 9 = .inl (cI, 6, .inl (zA R_pl_threads)) ∧ σ' 12 = oC_pa ad R_pa_size R_pa_format pa_faultPlace pa_stitchesRead ∧ σ' 13 = .inl (cI, 49924, .inl (zA R_pa_bytes)) ∧ zFF ad cI nF σ' F_fd_colour F_fd_layer F_fd_column F_fd_cornerXs F_fd_cornerYs R_F_fd_crossings F_fd_cornerCount R_F_fd_crossingCount F_fd_density F_fd_length F_fd_shift F_fd_pull F_fd_underlay R_F_fd_drawn R_F_pt_xs R_F_pt_ys R_F_pt_size ∧ zO cL σ' R_lw_out ∧ ∀ i : Nat, i < 46 → i ≠ 0 → i ≠ 2 → i ≠ 3 → i ≠ 4 → i ≠ 5 → i ≠ 6 → i ≠ 7 → i ≠ 8 → i ≠ 9 → i ≠ 12 → i ≠ 13 → i ≠ 44 → σ' i = σ0 i)) 1 6 (zFr ad N sz) := by
  refine zMetH hI (by decide) (Nat.le_of_ble_eq_true rfl) ?_
  intro p e s m args below meth c Q hx hb hr hlocks hml hown hts htab hK hX hNc hsz hQ hH hA ls hl
  subst hsz
  have hl : lv_has ls 4 [(0, .ref (ad 0)), (1, .int (zI p1)), (2, .ref (ad 44))] := hl
  have hk_sp : 0 < N := by omega
  have hk_b : 44 < N := by omega
  unfold f_L_write at hf
  refine lv_aload_n hx hb dL_write_0 rfl (lv_at hl 2 rfl) ?_
  refine lv_iconst (v := zI 0) hx hb dL_write_1 (by decide +kernel) ?_
  refine lv_aload_n hx hb dL_write_2 rfl (lv_at hl 0 rfl) ?_
  refine lv_iload_n hx hb dL_write_3 rfl (lv_at hl 1 rfl) ?_
  obtain ⟨t, r, u0, u1, u2, u3, u4, u5, u6, u7, u8, u9, u10, u11, u12, u13, u14, u15, u16, u17, u18, u19, u20, u21, k1, hf⟩ := zb24_some hf
  refine zxVi (C := RX6) (As := [.int (zI p1)]) (rest := [.int (zI 0), .ref (ad 44)]) hx hb hml hown hts hl.1 hK hH hA (hX.kept hH.2.2.2.1) (c_X6_write hI hN hNF hst h_sp h_sp_fields h_sp_waiting h_pl h_pl_kinds h_pl_differencesX h_pl_differencesY h_pl_owners h_pl_kindCounts h_pl_threads h_pa h_pa_bytes h_FF k1) zk_t3_214 zk_t3_215 zk_t3_216 zk_t1_1 zk_t3_217 hd_X6_write rfl ⟨rfl, rfl, Nat.le_of_ble_eq_true rfl, Nat.le_of_ble_eq_true rfl⟩ ⟨by decide, by decide⟩ hk_sp h_sp rfl rfl rfl (Nat.le_of_ble_eq_true rfl) dL_write_4 (fun E ce q9 σ1 H1 l1 hp hE hH hce hcv hcl => ?_) (fun q1 σ1 H1 l1 hp hH => ?_)
  · replace hf := (if_pos (zEx_ne hE)).symm.trans hf
    obtain ⟨h_sp, h_sp_waiting, h_pl, h_pl_kinds, h_pl_differencesX, h_pl_differencesY, h_pl_owners, h_pl_kindCounts, h_pl_threads, h_pa, h_pa_bytes, h_FF, hn⟩ := hp
    have hE0 := hE
    rcases hE0 with ⟨rfl, ht⟩ | ⟨rfl, ht⟩ | ⟨rfl, ht⟩
    · subst ht
      refine vx_catch hown [] ⟨0, 9, 12, 13⟩ [] htab (fun z hz => nomatch hz) (by decide) (by decide) (hts _ zk_t2_123) (zcast hX zcb_1) hce hcv hcl ?_
      refine lv_astore_n (lv' := [(3, .ref q9), (0, .ref (ad 0)), (1, .int (zI p1)), (2, .ref (ad 44))]) hx hb dL_write_12 rfl hl (by decide) rfl (fun ls hl => ?_)
      refine lv_iconst (v := zI 1) hx hb dL_write_13 (by decide +kernel) ?_
      cases hf
      exact zretW hx hb hr hlocks hQ hH ⟨rfl, h_sp, h_sp_waiting, h_pl, h_pl_kinds, h_pl_differencesX, h_pl_differencesY, h_pl_owners, h_pl_kindCounts, h_pl_threads, h_pa, h_pa_bytes, h_FF, (zO_keep h_out (hn 44 (by decide) (by decide) (by decide) (by decide) (by decide) (by decide) (by decide) (by decide) (by decide) (by decide) (by decide) (by decide))), fun i h46 a0 a1 a2 a3 a4 a5 a6 a7 a8 a9 a10 ab => hn i h46 a0 a1 a2 a3 a4 a5 a6 a7 a8 a9 a10⟩ ⟨by decide, by decide⟩ dL_write_14
    · subst ht
      exact absurd hf (by simp)
    · subst ht
      exact absurd hf (by simp)
  obtain ⟨ht0, hr1, h_sp, h_sp_waiting, h_pl, h_pl_kinds, h_pl_differencesX, h_pl_differencesY, h_pl_owners, h_pl_kindCounts, h_pl_threads, h_pa, h_pa_bytes, h_FF, hn⟩ := hp
  replace hf := (if_neg (fun z => z ht0)).symm.trans hf
  subst hr1
  have h_out := (zO_keep h_out (hn 44 (by decide) (by decide) (by decide) (by decide) (by decide) (by decide) (by decide) (by decide) (by decide) (by decide) (by decide) (by decide)))
  refine lv_i2l hx hb dL_write_7 rfl ?_
  refine zlast hx hb hK hH hk_b h_out rfl dL_write_8 (fun σ2 H2 l2 h_out hn2 hH => ?_)
  have h_sp := (hn2 0 (by decide)).trans h_sp
  have h_sp_waiting := (hn2 2 (by decide)).trans h_sp_waiting
  have h_pl := (hn2 3 (by decide)).trans h_pl
  have h_pl_kinds := (hn2 4 (by decide)).trans h_pl_kinds
  have h_pl_differencesX := (hn2 5 (by decide)).trans h_pl_differencesX
  have h_pl_differencesY := (hn2 6 (by decide)).trans h_pl_differencesY
  have h_pl_owners := (hn2 7 (by decide)).trans h_pl_owners
  have h_pl_kindCounts := (hn2 8 (by decide)).trans h_pl_kindCounts
  have h_pl_threads := (hn2 9 (by decide)).trans h_pl_threads
  have h_pa := (hn2 12 (by decide)).trans h_pa
  have h_pa_bytes := (hn2 13 (by decide)).trans h_pa_bytes
  have h_FF := zFF_keep (fun i hi => hn2 i (by omega)) h_FF
  refine lv_goto (tgt := 15) hx hb dL_write_9 (by decide) ?_
  refine lv_iconst (v := zI 0) hx hb dL_write_15 (by decide +kernel) ?_
  cases hf
  exact zretW hx hb hr hlocks hQ hH ⟨rfl, h_sp, h_sp_waiting, h_pl, h_pl_kinds, h_pl_differencesX, h_pl_differencesY, h_pl_owners, h_pl_kindCounts, h_pl_threads, h_pa, h_pa_bytes, h_FF, h_out, fun i h46 a0 a1 a2 a3 a4 a5 a6 a7 a8 a9 a10 ab => (hn2 i ab).trans (hn i h46 a0 a1 a2 a3 a4 a5 a6 a7 a8 a9 a10)⟩ ⟨by decide, by decide⟩ dL_write_16
def f_L_byteAt (pa_bytes : Int → Int) (pa_size : Int) (p1 : Int) (lw_out : Int) : Option (Int × Int) :=
  zb2 (f_X6_byteAt pa_bytes pa_size p1) fun t r =>
  if ¬ t = 0 then
    if t = 3 then some (1, lw_out) else none
  else
    some (0, r)
abbrev rmL_byteAt : Room := { frames := 7, cells := 1, slots := 6, locals := 113 }
theorem hd_L_byteAt : yL_byteAt.cls ≠ "java/lang/invoke/MethodHandle" ∧ yL_byteAt.cls ≠ "java/lang/invoke/VarHandle" ∧ (parseMethodDescriptor yL_byteAt.desc).map (fun d => d.parameters.length) = some 3 := by decide +kernel
set_option maxHeartbeats 4000000 in
set_option maxRecDepth 100000 in
theorem c_L_byteAt {l : Launch} {D : va_G} {cI cZ cF cL cD : ClassId} {ad : Nat → Nat} {N : Nat} (hI : ∀ i j, i < N → j < N → ad i = ad j → i = j) (hN : 46 ≤ N) (hst : l.stackTraces = false) {σ0 : Nat → va_E} {sz : Nat} {sp_fieldCount : Int} {sp_trimBound : Int} {sp_planned : Int} {pa_bytes : Int → Int} {pa_size : Int} {pa_format : Int} {pa_faultPlace : Int} {pa_stitchesRead : Int} {p1 : Int} {lw_out : Int} {R0 : Int} {R_lw_out : Int} (h_sp : σ0 0 = oC_sp ad sp_fieldCount sp_trimBound sp_planned) (h_pa : σ0 12 = oC_pa ad pa_size pa_format pa_faultPlace pa_stitchesRead) (h_pa_bytes : σ0 13 = .inl (cI, 49924, .inl (zA pa_bytes))) (h_out : zO cL σ0 lw_out) (hf : f_L_byteAt pa_bytes pa_size p1 lw_out = some (R0, R_lw_out)) :
    Met l yL_byteAt (Cond.codeWith yL_byteAt cL_byteAt 4 (some .int) [(0, 9, 12, 21)] :: wsL_law) rmL_byteAt (zPreH D ad N (zT cI cZ cF cL cD) σ0 sz [.ref (ad 0), .int (zI p1), .ref (ad 44)]) (zQi D ad N sz (fun r σ' => r = zI R0 ∧ zO cL σ' R_lw_out ∧ ∀ i : Nat, i ≠ 44 → σ' i = σ0 i)) 1 6 (zFr ad N sz) := by
  refine zMetH hI (by decide) (Nat.le_of_ble_eq_true rfl) ?_
  intro p e s m args below meth c Q hx hb hr hlocks hml hown hts htab hK hX hNc hsz hQ hH hA ls hl
  subst hsz
  have hl : lv_has ls 4 [(0, .ref (ad 0)), (1, .int (zI p1)), (2, .ref (ad 44))] := hl
  have hk_sp : 0 < N := by omega
  have hk_b : 44 < N := by omega
  unfold f_L_byteAt at hf
  refine lv_aload_n hx hb dL_byteAt_0 rfl (lv_at hl 2 rfl) ?_
  refine lv_iconst (v := zI 0) hx hb dL_byteAt_1 (by decide +kernel) ?_
  refine lv_aload_n hx hb dL_byteAt_2 rfl (lv_at hl 0 rfl) ?_
  refine lv_iload_n hx hb dL_byteAt_3 rfl (lv_at hl 1 rfl) ?_
  obtain ⟨t, r, k1, hf⟩ := zb2_some hf
  refine zxVi (C := RX6) (As := [.int (zI p1)]) (rest := [.int (zI 0), .ref (ad 44)]) hx hb hml hown hts hl.1 hK hH hA (hX.kept hH.2.2.2.1) (c_X6_byteAt hI hN hst h_sp h_pa h_pa_bytes k1) zk_t4_2 zk_t4_3 zk_t4_4 zk_t1_1 zk_t4_5 hd_X6_byteAt rfl ⟨rfl, rfl, Nat.le_of_ble_eq_true rfl, Nat.le_of_ble_eq_true rfl⟩ ⟨by decide, by decide⟩ hk_sp h_sp rfl rfl rfl (Nat.le_of_ble_eq_true rfl) dL_byteAt_4 (fun E ce q9 σ1 H1 l1 hp hE hH hce hcv hcl => ?_) (fun q1 σ1 H1 l1 hp hH => ?_)
  · replace hf := (if_pos (zEx_ne hE)).symm.trans hf
    rw [hp] at hH
    have hE0 := hE
    rcases hE0 with ⟨rfl, ht⟩ | ⟨rfl, ht⟩ | ⟨rfl, ht⟩
    · subst ht
      exact absurd hf (by simp)
    · subst ht
      exact absurd hf (by simp)
    · subst ht
      refine vx_catch hown [] ⟨0, 9, 12, 21⟩ [] htab (fun z hz => nomatch hz) (by decide) (by decide) (hts _ zk_t3_62) (zcast hX zcb_3) hce hcv hcl ?_
      refine lv_astore_n (lv' := [(3, .ref q9), (0, .ref (ad 0)), (1, .int (zI p1)), (2, .ref (ad 44))]) hx hb dL_byteAt_12 rfl hl (by decide) rfl (fun ls hl => ?_)
      refine lv_iconst (v := zI 1) hx hb dL_byteAt_13 (by decide +kernel) ?_
      cases hf
      exact zretW hx hb hr hlocks hQ hH ⟨rfl, (zO_keep h_out (rfl)), fun i ab => rfl⟩ ⟨by decide, by decide⟩ dL_byteAt_14
  obtain ⟨ht0, hr1, hs1⟩ := hp
  rw [hs1] at hH
  replace hf := (if_neg (fun z => z ht0)).symm.trans hf
  subst hr1
  have h_out := (zO_keep h_out (rfl))
  refine lv_i2l hx hb dL_byteAt_7 rfl ?_
  refine zlast hx hb hK hH hk_b h_out rfl dL_byteAt_8 (fun σ2 H2 l2 h_out hn2 hH => ?_)
  refine lv_goto (tgt := 15) hx hb dL_byteAt_9 (by decide) ?_
  refine lv_iconst (v := zI 0) hx hb dL_byteAt_15 (by decide +kernel) ?_
  cases hf
  exact zretW hx hb hr hlocks hQ hH ⟨rfl, h_out, fun i ab => (hn2 i ab).trans (rfl)⟩ ⟨by decide, by decide⟩ dL_byteAt_16
def f_L_damage (pa_bytes : Int → Int) (pa_size : Int) (p1 : Int) (p2 : Int) (lw_out : Int) : Option (Int × (Int → Int) × Int) :=
  zb3 (f_X6_damage pa_bytes pa_size p1 p2) fun t r u0 =>
  if ¬ t = 0 then
    if t = 3 then some (1, u0, lw_out) else if t = 1 then some (2, u0, lw_out) else none
  else
    some (0, u0, r)
abbrev rmL_damage : Room := { frames := 7, cells := 1, slots := 6, locals := 115 }
theorem hd_L_damage : yL_damage.cls ≠ "java/lang/invoke/MethodHandle" ∧ yL_damage.cls ≠ "java/lang/invoke/VarHandle" ∧ (parseMethodDescriptor yL_damage.desc).map (fun d => d.parameters.length) = some 4 := by decide +kernel
set_option maxHeartbeats 4000000 in
set_option maxRecDepth 100000 in
theorem c_L_damage {l : Launch} {D : va_G} {cI cZ cF cL cD : ClassId} {ad : Nat → Nat} {N : Nat} (hI : ∀ i j, i < N → j < N → ad i = ad j → i = j) (hN : 46 ≤ N) (hst : l.stackTraces = false) {σ0 : Nat → va_E} {sz : Nat} {sp_fieldCount : Int} {sp_trimBound : Int} {sp_planned : Int} {pa_bytes : Int → Int} {pa_size : Int} {pa_format : Int} {pa_faultPlace : Int} {pa_stitchesRead : Int} {p1 : Int} {p2 : Int} {lw_out : Int} {R0 : Int} {R_pa_bytes : Int → Int} {R_lw_out : Int} (h_sp : σ0 0 = oC_sp ad sp_fieldCount sp_trimBound sp_planned) (h_pa : σ0 12 = oC_pa ad pa_size pa_format pa_faultPlace pa_stitchesRead) (h_pa_bytes : σ0 13 = .inl (cI, 49924, .inl (zA pa_bytes))) (h_out : zO cL σ0 lw_out) (hf : f_L_damage pa_bytes pa_size p1 p2 lw_out = some (R0, R_pa_bytes, R_lw_out)) :
    Met l yL_damage (Cond.codeWith yL_damage cL_damage 5 (some .int) [(0, 10, 13, 21), (0, 10, 17, 13)] :: wsL_law) rmL_damage (zPreH D ad N (zT cI cZ cF cL cD) σ0 sz [.ref (ad 0), .int (zI p1), .int (zI p2), .ref (ad 44)]) (zQi D ad N sz (fun r σ' => r = zI R0 ∧ σ' 13 = .inl (cI, 49924, .inl (zA R_pa_bytes)) ∧ zO cL σ' R_lw_out ∧ ∀ i : Nat, i ≠ 13 → i ≠ 44 → σ' i = σ0 i)) 1 6 (zFr ad N sz) := by
  refine zMetH hI (by decide) (Nat.le_of_ble_eq_true rfl) ?_
  intro p e s m args below meth c Q hx hb hr hlocks hml hown hts htab hK hX hNc hsz hQ hH hA ls hl
  subst hsz
  have hl : lv_has ls 5 [(0, .ref (ad 0)), (1, .int (zI p1)), (2, .int (zI p2)), (3, .ref (ad 44))] := hl
  have hk_sp : 0 < N := by omega
  have hk_b : 44 < N := by omega
  unfold f_L_damage at hf
  refine lv_aload_n hx hb dL_damage_0 rfl (lv_at hl 3 rfl) ?_
  refine lv_iconst (v := zI 0) hx hb dL_damage_1 (by decide +kernel) ?_
  refine lv_aload_n hx hb dL_damage_2 rfl (lv_at hl 0 rfl) ?_
  refine lv_iload_n hx hb dL_damage_3 rfl (lv_at hl 1 rfl) ?_
  refine lv_iload_n hx hb dL_damage_4 rfl (lv_at hl 2 rfl) ?_
  obtain ⟨t, r, u0, k1, hf⟩ := zb3_some hf
  refine zxVi (C := RX6) (As := [.int (zI p1), .int (zI p2)]) (rest := [.int (zI 0), .ref (ad 44)]) hx hb hml hown hts hl.1 hK hH hA (hX.kept hH.2.2.2.1) (c_X6_damage hI hN hst h_sp h_pa h_pa_bytes k1) zk_t4_11 zk_t4_12 zk_t4_13 zk_t1_1 zk_t4_14 hd_X6_damage rfl ⟨rfl, rfl, Nat.le_of_ble_eq_true rfl, Nat.le_of_ble_eq_true rfl⟩ ⟨by decide, by decide⟩ hk_sp h_sp rfl rfl rfl (Nat.le_of_ble_eq_true rfl) dL_damage_5 (fun E ce q9 σ1 H1 l1 hp hE hH hce hcv hcl => ?_) (fun q1 σ1 H1 l1 hp hH => ?_)
  · replace hf := (if_pos (zEx_ne hE)).symm.trans hf
    obtain ⟨h_pa_bytes, hn⟩ := hp
    have hE0 := hE
    rcases hE0 with ⟨rfl, ht⟩ | ⟨rfl, ht⟩ | ⟨rfl, ht⟩
    · subst ht
      refine vx_catch hown [⟨0, 10, 13, 21⟩] ⟨0, 10, 17, 13⟩ [] htab (fun z hz => by
          rcases List.mem_cons.mp hz with rfl | hz
          · exact Or.inr ⟨by decide, _, hts _ zk_t3_62, hNc _ (List.mem_of_getElem? (i := 1) rfl)⟩
          · exact nomatch hz) (by decide) (by decide) (hts _ zk_t2_123) (zcast hX zcb_1) hce hcv hcl ?_
      refine lv_astore (lv' := [(4, .ref q9), (0, .ref (ad 0)), (1, .int (zI p1)), (2, .int (zI p2)), (3, .ref (ad 44))]) hx hb dL_damage_17 hl (by decide) rfl (fun ls hl => ?_)
      refine lv_iconst (v := zI 2) hx hb dL_damage_19 (by decide +kernel) ?_
      cases hf
      exact zretW hx hb hr hlocks hQ hH ⟨rfl, h_pa_bytes, (zO_keep h_out (hn 44 (by decide))), fun i a0 ab => hn i a0⟩ ⟨by decide, by decide⟩ dL_damage_20
    · subst ht
      exact absurd hf (by simp)
    · subst ht
      refine vx_catch hown [] ⟨0, 10, 13, 21⟩ [⟨0, 10, 17, 13⟩] htab (fun z hz => nomatch hz) (by decide) (by decide) (hts _ zk_t3_62) (zcast hX zcb_3) hce hcv hcl ?_
      refine lv_astore (lv' := [(4, .ref q9), (0, .ref (ad 0)), (1, .int (zI p1)), (2, .int (zI p2)), (3, .ref (ad 44))]) hx hb dL_damage_13 hl (by decide) rfl (fun ls hl => ?_)
      refine lv_iconst (v := zI 1) hx hb dL_damage_15 (by decide +kernel) ?_
      cases hf
      exact zretW hx hb hr hlocks hQ hH ⟨rfl, h_pa_bytes, (zO_keep h_out (hn 44 (by decide))), fun i a0 ab => hn i a0⟩ ⟨by decide, by decide⟩ dL_damage_16
  obtain ⟨ht0, hr1, h_pa_bytes, hn⟩ := hp
  replace hf := (if_neg (fun z => z ht0)).symm.trans hf
  subst hr1
  have h_out := (zO_keep h_out (hn 44 (by decide)))
  refine lv_i2l hx hb dL_damage_8 rfl ?_
  refine zlast hx hb hK hH hk_b h_out rfl dL_damage_9 (fun σ2 H2 l2 h_out hn2 hH => ?_)
  have h_pa_bytes := (hn2 13 (by decide)).trans h_pa_bytes
  refine lv_goto (tgt := 21) hx hb dL_damage_10 (by decide) ?_
  refine lv_iconst (v := zI 0) hx hb dL_damage_21 (by decide +kernel) ?_
  cases hf
  exact zretW hx hb hr hlocks hQ hH ⟨rfl, h_pa_bytes, h_out, fun i a0 ab => (hn2 i ab).trans (hn i a0)⟩ ⟨by decide, by decide⟩ dL_damage_22
def f_L_shorten (pa_size : Int) (p1 : Int) (lw_out : Int) : Option (Int × Int × Int) :=
  zb3 (f_X6_shorten pa_size p1) fun t r u0 =>
  if ¬ t = 0 then
    if t = 1 then some (1, u0, lw_out) else none
  else
    some (0, u0, r)
abbrev rmL_shorten : Room := { frames := 7, cells := 1, slots := 6, locals := 114 }
theorem hd_L_shorten : yL_shorten.cls ≠ "java/lang/invoke/MethodHandle" ∧ yL_shorten.cls ≠ "java/lang/invoke/VarHandle" ∧ (parseMethodDescriptor yL_shorten.desc).map (fun d => d.parameters.length) = some 3 := by decide +kernel
set_option maxHeartbeats 4000000 in
set_option maxRecDepth 100000 in
theorem c_L_shorten {l : Launch} {D : va_G} {cI cZ cF cL cD : ClassId} {ad : Nat → Nat} {N : Nat} (hI : ∀ i j, i < N → j < N → ad i = ad j → i = j) (hN : 46 ≤ N) (hst : l.stackTraces = false) {σ0 : Nat → va_E} {sz : Nat} {sp_fieldCount : Int} {sp_trimBound : Int} {sp_planned : Int} {pa_size : Int} {pa_format : Int} {pa_faultPlace : Int} {pa_stitchesRead : Int} {p1 : Int} {lw_out : Int} {R0 : Int} {R_pa_size : Int} {R_lw_out : Int} (h_sp : σ0 0 = oC_sp ad sp_fieldCount sp_trimBound sp_planned) (h_pa : σ0 12 = oC_pa ad pa_size pa_format pa_faultPlace pa_stitchesRead) (h_out : zO cL σ0 lw_out) (hf : f_L_shorten pa_size p1 lw_out = some (R0, R_pa_size, R_lw_out)) :
    Met l yL_shorten (Cond.codeWith yL_shorten cL_shorten 4 (some .int) [(0, 9, 12, 13)] :: wsL_law) rmL_shorten (zPreH D ad N (zT cI cZ cF cL cD) σ0 sz [.ref (ad 0), .int (zI p1), .ref (ad 44)]) (zQi D ad N sz (fun r σ' => r = zI R0 ∧ σ' 12 = oC_pa ad R_pa_size pa_format pa_faultPlace pa_stitchesRead ∧ zO cL σ' R_lw_out ∧ ∀ i : Nat, i ≠ 12 → i ≠ 44 → σ' i = σ0 i)) 1 6 (zFr ad N sz) := by
  refine zMetH hI (by decide) (Nat.le_of_ble_eq_true rfl) ?_
  intro p e s m args below meth c Q hx hb hr hlocks hml hown hts htab hK hX hNc hsz hQ hH hA ls hl
  subst hsz
  have hl : lv_has ls 4 [(0, .ref (ad 0)), (1, .int (zI p1)), (2, .ref (ad 44))] := hl
  have hk_sp : 0 < N := by omega
  have hk_b : 44 < N := by omega
  unfold f_L_shorten at hf
  refine lv_aload_n hx hb dL_shorten_0 rfl (lv_at hl 2 rfl) ?_
  refine lv_iconst (v := zI 0) hx hb dL_shorten_1 (by decide +kernel) ?_
  refine lv_aload_n hx hb dL_shorten_2 rfl (lv_at hl 0 rfl) ?_
  refine lv_iload_n hx hb dL_shorten_3 rfl (lv_at hl 1 rfl) ?_
  obtain ⟨t, r, u0, k1, hf⟩ := zb3_some hf
  refine zxVi (C := RX6) (As := [.int (zI p1)]) (rest := [.int (zI 0), .ref (ad 44)]) hx hb hml hown hts hl.1 hK hH hA (hX.kept hH.2.2.2.1) (c_X6_shorten hI hN hst h_sp h_pa k1) zk_t4_19 zk_t4_20 zk_t4_21 zk_t1_1 zk_t4_22 hd_X6_shorten rfl ⟨rfl, rfl, Nat.le_of_ble_eq_true rfl, Nat.le_of_ble_eq_true rfl⟩ ⟨by decide, by decide⟩ hk_sp h_sp rfl rfl rfl (Nat.le_of_ble_eq_true rfl) dL_shorten_4 (fun E ce q9 σ1 H1 l1 hp hE hH hce hcv hcl => ?_) (fun q1 σ1 H1 l1 hp hH => ?_)
  · replace hf := (if_pos (zEx_ne hE)).symm.trans hf
    obtain ⟨h_pa, hn⟩ := hp
    have hE0 := hE
    rcases hE0 with ⟨rfl, ht⟩ | ⟨rfl, ht⟩ | ⟨rfl, ht⟩
    · subst ht
      refine vx_catch hown [] ⟨0, 9, 12, 13⟩ [] htab (fun z hz => nomatch hz) (by decide) (by decide) (hts _ zk_t2_123) (zcast hX zcb_1) hce hcv hcl ?_
      refine lv_astore_n (lv' := [(3, .ref q9), (0, .ref (ad 0)), (1, .int (zI p1)), (2, .ref (ad 44))]) hx hb dL_shorten_12 rfl hl (by decide) rfl (fun ls hl => ?_)
      refine lv_iconst (v := zI 1) hx hb dL_shorten_13 (by decide +kernel) ?_
      cases hf
      exact zretW hx hb hr hlocks hQ hH ⟨rfl, h_pa, (zO_keep h_out (hn 44 (by decide))), fun i a0 ab => hn i a0⟩ ⟨by decide, by decide⟩ dL_shorten_14
    · subst ht
      exact absurd hf (by simp)
    · subst ht
      exact absurd hf (by simp)
  obtain ⟨ht0, hr1, h_pa, hn⟩ := hp
  replace hf := (if_neg (fun z => z ht0)).symm.trans hf
  subst hr1
  have h_out := (zO_keep h_out (hn 44 (by decide)))
  refine lv_i2l hx hb dL_shorten_7 rfl ?_
  refine zlast hx hb hK hH hk_b h_out rfl dL_shorten_8 (fun σ2 H2 l2 h_out hn2 hH => ?_)
  have h_pa := (hn2 12 (by decide)).trans h_pa
  refine lv_goto (tgt := 15) hx hb dL_shorten_9 (by decide) ?_
  refine lv_iconst (v := zI 0) hx hb dL_shorten_15 (by decide +kernel) ?_
  cases hf
  exact zretW hx hb hr hlocks hQ hH ⟨rfl, h_pa, h_out, fun i a0 ab => (hn2 i ab).trans (hn i a0)⟩ ⟨by decide, by decide⟩ dL_shorten_16
def f_L_start (sp_waiting : Int → Int) (sp_trimBound : Int) (sp_planned : Int) (F_fd_colour : Int → Int) (F_fd_layer : Int → Int) (F_fd_column : Int → Int) (F_fd_cornerXs : Int → Int → Int) (F_fd_cornerYs : Int → Int → Int) (F_fd_crossings : Int → Int → Int) (F_fd_cornerCount : Int → Int) (F_fd_crossingCount : Int → Int) (F_fd_density : Int → Int) (F_fd_length : Int → Int) (F_fd_shift : Int → Int) (F_fd_pull : Int → Int) (F_fd_underlay : Int → Int) (F_fd_drawn : Int → Int) (F_pt_xs : Int → Int → Int) (F_pt_ys : Int → Int → Int) (F_pt_size : Int → Int) (pl_kinds : Int → Int) (pl_differencesX : Int → Int) (pl_differencesY : Int → Int) (pl_owners : Int → Int) (pl_kindCounts : Int → Int) (pl_threads : Int → Int) (pl_size : Int) (pl_seconds : UInt32) (pl_needleX : Int) (pl_needleY : Int) (pl_colour : Int) (ma_stitchesAhead : Int → Int) (ma_broken : Int → Int) (ma_brokeAt : Int → Int) (ma_stitches : Int → Int) (ma_headCount : Int) (ma_late : Int) (ma_commandCount : Int) (ma_place : Int) (nF : Int) (p1 : Int) (p2 : Int) : Option (Int × (Int → Int) × Int × (Int → Int → Int) × (Int → Int) × (Int → Int) × (Int → Int → Int) × (Int → Int → Int) × (Int → Int) × (Int → Int) × (Int → Int) × (Int → Int) × (Int → Int) × (Int → Int) × (Int → Int) × Int × UInt32 × Int × Int × Int × (Int → Int) × (Int → Int) × (Int → Int) × (Int → Int) × Int × Int × Int × Int) :=
  zb28 (f_X6_start sp_waiting sp_trimBound sp_planned F_fd_colour F_fd_layer F_fd_column F_fd_cornerXs F_fd_cornerYs F_fd_crossings F_fd_cornerCount F_fd_crossingCount F_fd_density F_fd_length F_fd_shift F_fd_pull F_fd_underlay F_fd_drawn F_pt_xs F_pt_ys F_pt_size pl_kinds pl_differencesX pl_differencesY pl_owners pl_kindCounts pl_threads pl_size pl_seconds pl_needleX pl_needleY pl_colour ma_stitchesAhead ma_broken ma_brokeAt ma_stitches ma_headCount ma_late ma_commandCount ma_place nF p1 p2) fun t u0 u1 u2 u3 u4 u5 u6 u7 u8 u9 u10 u11 u12 u13 u14 u15 u16 u17 u18 u19 u20 u21 u22 u23 u24 u25 u26 =>
  if ¬ t = 0 then
    if t = 1 then some (1, u0, u1, u2, u3, u4, u5, u6, u7, u8, u9, u10, u11, u12, u13, u14, u15, u16, u17, u18, u19, u20, u21, u22, u23, u24, u25, u26) else none
  else
    some (0, u0, u1, u2, u3, u4, u5, u6, u7, u8, u9, u10, u11, u12, u13, u14, u15, u16, u17, u18, u19, u20, u21, u22, u23, u24, u25, u26)
abbrev rmL_start : Room := { frames := 8, cells := 1, slots := 6, locals := 189 }
theorem hd_L_start : yL_start.cls ≠ "java/lang/invoke/MethodHandle" ∧ yL_start.cls ≠ "java/lang/invoke/VarHandle" ∧ (parseMethodDescriptor yL_start.desc).map (fun d => d.parameters.length) = some 3 := by decide +kernel
set_option maxHeartbeats 4000000 in
set_option maxRecDepth 100000 in
theorem c_L_start {l : Launch} {D : va_G} {cI cZ cF cL cD : ClassId} {ad : Nat → Nat} {N : Nat} (hI : ∀ i j, i < N → j < N → ad i = ad j → i = j) (hN : 46 ≤ N) {nF : Int} (hNF : N = 46 + 7 * nF.toNat) (hst : l.stackTraces = false) {σ0 : Nat → va_E} {sz : Nat} {sp_waiting : Int → Int} {sp_fieldCount : Int} {sp_trimBound : Int} {sp_planned : Int} {F_fd_colour : Int → Int} {F_fd_layer : Int → Int} {F_fd_column : Int → Int} {F_fd_cornerXs : Int → Int → Int} {F_fd_cornerYs : Int → Int → Int} {F_fd_crossings : Int → Int → Int} {F_fd_cornerCount : Int → Int} {F_fd_crossingCount : Int → Int} {F_fd_density : Int → Int} {F_fd_length : Int → Int} {F_fd_shift : Int → Int} {F_fd_pull : Int → Int} {F_fd_underlay : Int → Int} {F_fd_drawn : Int → Int} {F_pt_xs : Int → Int → Int} {F_pt_ys : Int → Int → Int} {F_pt_size : Int → Int} {pl_kinds : Int → Int} {pl_differencesX : Int → Int} {pl_differencesY : Int → Int} {pl_owners : Int → Int} {pl_kindCounts : Int → Int} {pl_threads : Int → Int} {pl_size : Int} {pl_seconds : UInt32} {pl_needleX : Int} {pl_needleY : Int} {pl_colour : Int} {ma_stitchesAhead : Int → Int} {ma_broken : Int → Int} {ma_brokeAt : Int → Int} {ma_stitches : Int → Int} {ma_headCount : Int} {ma_late : Int} {ma_commandCount : Int} {ma_place : Int} {p1 : Int} {p2 : Int} {R0 : Int} {R_sp_waiting : Int → Int} {R_sp_planned : Int} {R_F_fd_crossings : Int → Int → Int} {R_F_fd_crossingCount : Int → Int} {R_F_fd_drawn : Int → Int} {R_F_pt_xs : Int → Int → Int} {R_F_pt_ys : Int → Int → Int} {R_F_pt_size : Int → Int} {R_pl_kinds : Int → Int} {R_pl_differencesX : Int → Int} {R_pl_differencesY : Int → Int} {R_pl_owners : Int → Int} {R_pl_kindCounts : Int → Int} {R_pl_threads : Int → Int} {R_pl_size : Int} {R_pl_seconds : UInt32} {R_pl_needleX : Int} {R_pl_needleY : Int} {R_pl_colour : Int} {R_ma_stitchesAhead : Int → Int} {R_ma_broken : Int → Int} {R_ma_brokeAt : Int → Int} {R_ma_stitches : Int → Int} {R_ma_headCount : Int} {R_ma_late : Int} {R_ma_commandCount : Int} {R_ma_place : Int} (h_sp : σ0 0 = oC_sp ad sp_fieldCount sp_trimBound sp_planned) (h_sp_fields : σ0 1 = .inl (cF, 8, .inr (.inr (.inr (.inr (zFA ad nF)))))) (h_sp_waiting : σ0 2 = .inl (cZ, 8, .inl (zA sp_waiting))) (h_pl : σ0 3 = oC_pl ad pl_size pl_seconds pl_needleX pl_needleY pl_colour) (h_pl_kinds : σ0 4 = .inl (cI, 16641, .inl (zA pl_kinds))) (h_pl_differencesX : σ0 5 = .inl (cI, 16641, .inl (zA pl_differencesX))) (h_pl_differencesY : σ0 6 = .inl (cI, 16641, .inl (zA pl_differencesY))) (h_pl_owners : σ0 7 = .inl (cI, 16641, .inl (zA pl_owners))) (h_pl_kindCounts : σ0 8 = .inl (cI, 5, .inl (zA pl_kindCounts))) (h_pl_threads : σ0 9 = .inl (cI, 6, .inl (zA pl_threads))) (h_ma : σ0 14 = oC_ma ad ma_headCount ma_late ma_commandCount ma_place) (h_ma_stitchesAhead : σ0 15 = .inl (cI, 16642, .inl (zA ma_stitchesAhead))) (h_ma_broken : σ0 16 = .inl (cZ, 4, .inl (zA ma_broken))) (h_ma_brokeAt : σ0 17 = .inl (cI, 4, .inl (zA ma_brokeAt))) (h_ma_stitches : σ0 18 = .inl (cI, 4, .inl (zA ma_stitches))) (h_FF : zFF ad cI nF σ0 F_fd_colour F_fd_layer F_fd_column F_fd_cornerXs F_fd_cornerYs F_fd_crossings F_fd_cornerCount F_fd_crossingCount F_fd_density F_fd_length F_fd_shift F_fd_pull F_fd_underlay F_fd_drawn F_pt_xs F_pt_ys F_pt_size) (hf : f_L_start sp_waiting sp_trimBound sp_planned F_fd_colour F_fd_layer F_fd_column F_fd_cornerXs F_fd_cornerYs F_fd_crossings F_fd_cornerCount F_fd_crossingCount F_fd_density F_fd_length F_fd_shift F_fd_pull F_fd_underlay F_fd_drawn F_pt_xs F_pt_ys F_pt_size pl_kinds pl_differencesX pl_differencesY pl_owners pl_kindCounts pl_threads pl_size pl_seconds pl_needleX pl_needleY pl_colour ma_stitchesAhead ma_broken ma_brokeAt ma_stitches ma_headCount ma_late ma_commandCount ma_place nF p1 p2 = some (R0, R_sp_waiting, R_sp_planned, R_F_fd_crossings, R_F_fd_crossingCount, R_F_fd_drawn, R_F_pt_xs, R_F_pt_ys, R_F_pt_size, R_pl_kinds, R_pl_differencesX, R_pl_differencesY, R_pl_owners, R_pl_kindCounts, R_pl_threads, R_pl_size, R_pl_seconds, R_pl_needleX, R_pl_needleY, R_pl_colour, R_ma_stitchesAhead, R_ma_broken, R_ma_brokeAt, R_ma_stitches, R_ma_headCount, R_ma_late, R_ma_commandCount, R_ma_place)) :
    Met l yL_start (Cond.codeWith yL_start cL_start 4 (some .int) [(0, 6, 9, 13)] :: wsL_law) rmL_start (zPreH D ad N (zT cI cZ cF cL cD) σ0 sz [.ref (ad 0), .int (zI p1), .int (zI p2)]) (zQi D ad N sz (fun r σ' => r = zI R0 ∧ σ' 0 = oC_sp ad sp_fieldCount sp_trimBound R_sp_planned ∧ σ' 2 = .inl (cZ, 8, .inl (zA R_sp_waiting)) ∧ σ' 3 = oC_pl ad R_pl_size R_pl_seconds R_pl_needleX R_pl_needleY R_pl_colour ∧ σ' 4 = .inl (cI, 16641, .inl (zA R_pl_kinds)) ∧ σ' 5 = .inl (cI, 16641, .inl (zA R_pl_differencesX)) ∧ σ' 6 = .inl (cI, 16641, .inl (zA R_pl_differencesY)) ∧ σ' 7 = .inl (cI, 16641, .inl (zA R_pl_owners)) ∧ σ' 8 = .inl (cI, 5, .inl (zA R_pl_kindCounts)) ∧ σ' 9 = .inl (cI, 6, .inl (zA R_pl_threads)) ∧ σ' 14 = oC_ma ad R_ma_headCount R_ma_late R_ma_commandCount R_ma_place ∧ σ' 15 = .inl (cI, 16642, .inl (zA R_ma_stitchesAhead)) ∧ σ' 16 = .inl (cZ, 4, .inl (zA R_ma_broken)) ∧ σ' 17 = .inl (cI, 4, .inl (zA R_ma_brokeAt)) ∧ σ' 18 = .inl (cI, 4, .inl (zA R_ma_stitches)) ∧ zFF ad cI nF σ' F_fd_colour F_fd_layer F_fd_column F_fd_cornerXs F_fd_cornerYs R_F_fd_crossings F_fd_cornerCount R_F_fd_crossingCount F_fd_density F_fd_length F_fd_shift F_fd_pull F_fd_underlay R_F_fd_drawn R_F_pt_xs R_F_pt_ys R_F_pt_size ∧ ∀ i : Nat, i < 46 → i ≠ 0 → i ≠ 2 → i ≠ 3 → i ≠ 4 → i ≠ 5 → i ≠ 6 → i ≠ 7 → i ≠ 8 → i ≠ 9 → i ≠ 14 → i ≠ 15 → i ≠ 16 → i ≠ 17 → i ≠ 18 → σ' i = σ0 i)) 1 6 (zFr ad N sz) := by
  refine zMetH hI (by decide) (Nat.le_of_ble_eq_true rfl) ?_
  intro p e s m args below meth c Q hx hb hr hlocks hml hown hts htab hK hX hNc hsz hQ hH hA ls hl
  subst hsz
  have hl : lv_has ls 4 [(0, .ref (ad 0)), (1, .int (zI p1)), (2, .int (zI p2))] := hl
  have hk_sp : 0 < N := by omega
  have hk_b : 44 < N := by omega
  unfold f_L_start at hf
  refine lv_aload_n hx hb dL_start_0 rfl (lv_at hl 0 rfl) ?_
  refine lv_iload_n hx hb dL_start_1 rfl (lv_at hl 1 rfl) ?_
  refine lv_iload_n hx hb dL_start_2 rfl (lv_at hl 2 rfl) ?_
  obtain ⟨t, u0, u1, u2, u3, u4, u5, u6, u7, u8, u9, u10, u11, u12, u13, u14, u15, u16, u17, u18, u19, u20, u21, u22, u23, u24, u25, u26, k1, hf⟩ := zb28_some hf
  refine zxVv (C := RX6) (As := [.int (zI p1), .int (zI p2)]) (rest := []) hx hb hml hown hts hl.1 hK hH hA (hX.kept hH.2.2.2.1) (c_X6_start hI hN hNF hst h_sp h_sp_fields h_sp_waiting h_pl h_pl_kinds h_pl_differencesX h_pl_differencesY h_pl_owners h_pl_kindCounts h_pl_threads h_ma h_ma_stitchesAhead h_ma_broken h_ma_brokeAt h_ma_stitches h_FF k1) zk_t4_27 zk_t4_28 zk_t4_29 zk_t1_1 zk_t4_30 hd_X6_start rfl ⟨rfl, rfl, Nat.le_of_ble_eq_true rfl, Nat.le_of_ble_eq_true rfl⟩ ⟨by decide, by decide⟩ hk_sp h_sp rfl rfl rfl (Nat.le_of_ble_eq_true rfl) dL_start_3 (fun E ce q9 σ1 H1 l1 hp hE hH hce hcv hcl => ?_) (fun σ1 H1 l1 hp hH => ?_)
  · replace hf := (if_pos (zEx_ne hE)).symm.trans hf
    obtain ⟨h_sp, h_sp_waiting, h_pl, h_pl_kinds, h_pl_differencesX, h_pl_differencesY, h_pl_owners, h_pl_kindCounts, h_pl_threads, h_ma, h_ma_stitchesAhead, h_ma_broken, h_ma_brokeAt, h_ma_stitches, h_FF, hn⟩ := hp
    have hE0 := hE
    rcases hE0 with ⟨rfl, ht⟩ | ⟨rfl, ht⟩ | ⟨rfl, ht⟩
    · subst ht
      refine vx_catch hown [] ⟨0, 6, 9, 13⟩ [] htab (fun z hz => nomatch hz) (by decide) (by decide) (hts _ zk_t2_123) (zcast hX zcb_1) hce hcv hcl ?_
      refine lv_astore_n (lv' := [(3, .ref q9), (0, .ref (ad 0)), (1, .int (zI p1)), (2, .int (zI p2))]) hx hb dL_start_9 rfl hl (by decide) rfl (fun ls hl => ?_)
      refine lv_iconst (v := zI 1) hx hb dL_start_10 (by decide +kernel) ?_
      cases hf
      exact zretW hx hb hr hlocks hQ hH ⟨rfl, h_sp, h_sp_waiting, h_pl, h_pl_kinds, h_pl_differencesX, h_pl_differencesY, h_pl_owners, h_pl_kindCounts, h_pl_threads, h_ma, h_ma_stitchesAhead, h_ma_broken, h_ma_brokeAt, h_ma_stitches, h_FF, fun i h46 a0 a1 a2 a3 a4 a5 a6 a7 a8 a9 a10 a11 a12 a13 => hn i h46 a0 a1 a2 a3 a4 a5 a6 a7 a8 a9 a10 a11 a12 a13⟩ ⟨by decide, by decide⟩ dL_start_11
    · subst ht
      exact absurd hf (by simp)
    · subst ht
      exact absurd hf (by simp)
  obtain ⟨ht0, h_sp, h_sp_waiting, h_pl, h_pl_kinds, h_pl_differencesX, h_pl_differencesY, h_pl_owners, h_pl_kindCounts, h_pl_threads, h_ma, h_ma_stitchesAhead, h_ma_broken, h_ma_brokeAt, h_ma_stitches, h_FF, hn⟩ := hp
  replace hf := (if_neg (fun z => z ht0)).symm.trans hf
  refine lv_goto (tgt := 12) hx hb dL_start_6 (by decide) ?_
  refine lv_iconst (v := zI 0) hx hb dL_start_12 (by decide +kernel) ?_
  cases hf
  exact zretW hx hb hr hlocks hQ hH ⟨rfl, h_sp, h_sp_waiting, h_pl, h_pl_kinds, h_pl_differencesX, h_pl_differencesY, h_pl_owners, h_pl_kindCounts, h_pl_threads, h_ma, h_ma_stitchesAhead, h_ma_broken, h_ma_brokeAt, h_ma_stitches, h_FF, fun i h46 a0 a1 a2 a3 a4 a5 a6 a7 a8 a9 a10 a11 a12 a13 => hn i h46 a0 a1 a2 a3 a4 a5 a6 a7 a8 a9 a10 a11 a12 a13⟩ ⟨by decide, by decide⟩ dL_start_13
def f_L_run (ma_stitchesAhead : Int → Int) (ma_broken : Int → Int) (ma_brokeAt : Int → Int) (ma_stitches : Int → Int) (ma_headCount : Int) (ma_late : Int) (ma_commandCount : Int) (ma_place : Int) (p1 : Int) (lw_out : Int) : Option (Int × (Int → Int) × Int × Int) :=
  zb4 (f_X6_run ma_stitchesAhead ma_broken ma_brokeAt ma_stitches ma_headCount ma_late ma_commandCount ma_place p1) fun t r u0 u1 =>
  if ¬ t = 0 then
    if t = 1 then some (1, u0, u1, lw_out) else if t = 2 then some (2, u0, u1, lw_out) else none
  else
    some (0, u0, u1, r)
abbrev rmL_run : Room := { frames := 7, cells := 1, slots := 6, locals := 113 }
theorem hd_L_run : yL_run.cls ≠ "java/lang/invoke/MethodHandle" ∧ yL_run.cls ≠ "java/lang/invoke/VarHandle" ∧ (parseMethodDescriptor yL_run.desc).map (fun d => d.parameters.length) = some 3 := by decide +kernel
set_option maxHeartbeats 4000000 in
set_option maxRecDepth 100000 in
theorem c_L_run {l : Launch} {D : va_G} {cI cZ cF cL cD : ClassId} {ad : Nat → Nat} {N : Nat} (hI : ∀ i j, i < N → j < N → ad i = ad j → i = j) (hN : 46 ≤ N) (hst : l.stackTraces = false) {σ0 : Nat → va_E} {sz : Nat} {sp_fieldCount : Int} {sp_trimBound : Int} {sp_planned : Int} {ma_stitchesAhead : Int → Int} {ma_broken : Int → Int} {ma_brokeAt : Int → Int} {ma_stitches : Int → Int} {ma_headCount : Int} {ma_late : Int} {ma_commandCount : Int} {ma_place : Int} {p1 : Int} {lw_out : Int} {R0 : Int} {R_ma_stitches : Int → Int} {R_ma_place : Int} {R_lw_out : Int} (h_sp : σ0 0 = oC_sp ad sp_fieldCount sp_trimBound sp_planned) (h_ma : σ0 14 = oC_ma ad ma_headCount ma_late ma_commandCount ma_place) (h_ma_stitchesAhead : σ0 15 = .inl (cI, 16642, .inl (zA ma_stitchesAhead))) (h_ma_broken : σ0 16 = .inl (cZ, 4, .inl (zA ma_broken))) (h_ma_brokeAt : σ0 17 = .inl (cI, 4, .inl (zA ma_brokeAt))) (h_ma_stitches : σ0 18 = .inl (cI, 4, .inl (zA ma_stitches))) (h_out : zO cL σ0 lw_out) (hf : f_L_run ma_stitchesAhead ma_broken ma_brokeAt ma_stitches ma_headCount ma_late ma_commandCount ma_place p1 lw_out = some (R0, R_ma_stitches, R_ma_place, R_lw_out)) :
    Met l yL_run (Cond.codeWith yL_run cL_run 4 (some .int) [(0, 9, 12, 13), (0, 9, 15, 15)] :: wsL_law) rmL_run (zPreH D ad N (zT cI cZ cF cL cD) σ0 sz [.ref (ad 0), .int (zI p1), .ref (ad 44)]) (zQi D ad N sz (fun r σ' => r = zI R0 ∧ σ' 14 = oC_ma ad ma_headCount ma_late ma_commandCount R_ma_place ∧ σ' 18 = .inl (cI, 4, .inl (zA R_ma_stitches)) ∧ zO cL σ' R_lw_out ∧ ∀ i : Nat, i ≠ 14 → i ≠ 18 → i ≠ 44 → σ' i = σ0 i)) 1 6 (zFr ad N sz) := by
  refine zMetH hI (by decide) (Nat.le_of_ble_eq_true rfl) ?_
  intro p e s m args below meth c Q hx hb hr hlocks hml hown hts htab hK hX hNc hsz hQ hH hA ls hl
  subst hsz
  have hl : lv_has ls 4 [(0, .ref (ad 0)), (1, .int (zI p1)), (2, .ref (ad 44))] := hl
  have hk_sp : 0 < N := by omega
  have hk_b : 44 < N := by omega
  unfold f_L_run at hf
  refine lv_aload_n hx hb dL_run_0 rfl (lv_at hl 2 rfl) ?_
  refine lv_iconst (v := zI 0) hx hb dL_run_1 (by decide +kernel) ?_
  refine lv_aload_n hx hb dL_run_2 rfl (lv_at hl 0 rfl) ?_
  refine lv_iload_n hx hb dL_run_3 rfl (lv_at hl 1 rfl) ?_
  obtain ⟨t, r, u0, u1, k1, hf⟩ := zb4_some hf
  refine zxVi (C := RX6) (As := [.int (zI p1)]) (rest := [.int (zI 0), .ref (ad 44)]) hx hb hml hown hts hl.1 hK hH hA (hX.kept hH.2.2.2.1) (c_X6_run hI hN hst h_sp h_ma h_ma_stitchesAhead h_ma_broken h_ma_brokeAt h_ma_stitches k1) zk_t4_41 zk_t4_42 zk_t4_43 zk_t1_1 zk_t4_44 hd_X6_run rfl ⟨rfl, rfl, Nat.le_of_ble_eq_true rfl, Nat.le_of_ble_eq_true rfl⟩ ⟨by decide, by decide⟩ hk_sp h_sp rfl rfl rfl (Nat.le_of_ble_eq_true rfl) dL_run_4 (fun E ce q9 σ1 H1 l1 hp hE hH hce hcv hcl => ?_) (fun q1 σ1 H1 l1 hp hH => ?_)
  · replace hf := (if_pos (zEx_ne hE)).symm.trans hf
    obtain ⟨h_ma, h_ma_stitches, hn⟩ := hp
    have hE0 := hE
    rcases hE0 with ⟨rfl, ht⟩ | ⟨rfl, ht⟩ | ⟨rfl, ht⟩
    · subst ht
      refine vx_catch hown [] ⟨0, 9, 12, 13⟩ [⟨0, 9, 15, 15⟩] htab (fun z hz => nomatch hz) (by decide) (by decide) (hts _ zk_t2_123) (zcast hX zcb_1) hce hcv hcl ?_
      refine lv_astore_n (lv' := [(3, .ref q9), (0, .ref (ad 0)), (1, .int (zI p1)), (2, .ref (ad 44))]) hx hb dL_run_12 rfl hl (by decide) rfl (fun ls hl => ?_)
      refine lv_iconst (v := zI 1) hx hb dL_run_13 (by decide +kernel) ?_
      cases hf
      exact zretW hx hb hr hlocks hQ hH ⟨rfl, h_ma, h_ma_stitches, (zO_keep h_out (hn 44 (by decide) (by decide))), fun i a0 a1 ab => hn i a0 a1⟩ ⟨by decide, by decide⟩ dL_run_14
    · subst ht
      refine vx_catch hown [⟨0, 9, 12, 13⟩] ⟨0, 9, 15, 15⟩ [] htab (fun z hz => by
          rcases List.mem_cons.mp hz with rfl | hz
          · exact Or.inr ⟨by decide, _, hts _ zk_t2_123, hNc _ (List.mem_of_getElem? (i := 2) rfl)⟩
          · exact nomatch hz) (by decide) (by decide) (hts _ zk_t2_124) (zcast hX zcb_2) hce hcv hcl ?_
      refine lv_astore_n (lv' := [(3, .ref q9), (0, .ref (ad 0)), (1, .int (zI p1)), (2, .ref (ad 44))]) hx hb dL_run_15 rfl hl (by decide) rfl (fun ls hl => ?_)
      refine lv_iconst (v := zI 2) hx hb dL_run_16 (by decide +kernel) ?_
      cases hf
      exact zretW hx hb hr hlocks hQ hH ⟨rfl, h_ma, h_ma_stitches, (zO_keep h_out (hn 44 (by decide) (by decide))), fun i a0 a1 ab => hn i a0 a1⟩ ⟨by decide, by decide⟩ dL_run_17
    · subst ht
      exact absurd hf (by simp)
  obtain ⟨ht0, hr1, h_ma, h_ma_stitches, hn⟩ := hp
  replace hf := (if_neg (fun z => z ht0)).symm.trans hf
  subst hr1
  have h_out := (zO_keep h_out (hn 44 (by decide) (by decide)))
  refine lv_i2l hx hb dL_run_7 rfl ?_
  refine zlast hx hb hK hH hk_b h_out rfl dL_run_8 (fun σ2 H2 l2 h_out hn2 hH => ?_)
  have h_ma := (hn2 14 (by decide)).trans h_ma
  have h_ma_stitches := (hn2 18 (by decide)).trans h_ma_stitches
  refine lv_goto (tgt := 18) hx hb dL_run_9 (by decide) ?_
  refine lv_iconst (v := zI 0) hx hb dL_run_18 (by decide +kernel) ?_
  cases hf
  exact zretW hx hb hr hlocks hQ hH ⟨rfl, h_ma, h_ma_stitches, h_out, fun i a0 a1 ab => (hn2 i ab).trans (hn i a0 a1)⟩ ⟨by decide, by decide⟩ dL_run_19
def f_L_breaks (ma_broken : Int → Int) (ma_brokeAt : Int → Int) (ma_headCount : Int) (ma_place : Int) (p1 : Int) : Option (Int × (Int → Int) × (Int → Int)) :=
  zb3 (f_X6_breaks ma_broken ma_brokeAt ma_headCount ma_place p1) fun t u0 u1 =>
  if ¬ t = 0 then
    if t = 3 then some (1, u0, u1) else if t = 2 then some (2, u0, u1) else none
  else
    some (0, u0, u1)
abbrev rmL_breaks : Room := { frames := 7, cells := 1, slots := 6, locals := 113 }
theorem hd_L_breaks : yL_breaks.cls ≠ "java/lang/invoke/MethodHandle" ∧ yL_breaks.cls ≠ "java/lang/invoke/VarHandle" ∧ (parseMethodDescriptor yL_breaks.desc).map (fun d => d.parameters.length) = some 2 := by decide +kernel
set_option maxHeartbeats 4000000 in
set_option maxRecDepth 100000 in
theorem c_L_breaks {l : Launch} {D : va_G} {cI cZ cF cL cD : ClassId} {ad : Nat → Nat} {N : Nat} (hI : ∀ i j, i < N → j < N → ad i = ad j → i = j) (hN : 46 ≤ N) (hst : l.stackTraces = false) {σ0 : Nat → va_E} {sz : Nat} {sp_fieldCount : Int} {sp_trimBound : Int} {sp_planned : Int} {ma_broken : Int → Int} {ma_brokeAt : Int → Int} {ma_stitches : Int → Int} {ma_headCount : Int} {ma_late : Int} {ma_commandCount : Int} {ma_place : Int} {p1 : Int} {R0 : Int} {R_ma_broken : Int → Int} {R_ma_brokeAt : Int → Int} (h_sp : σ0 0 = oC_sp ad sp_fieldCount sp_trimBound sp_planned) (h_ma : σ0 14 = oC_ma ad ma_headCount ma_late ma_commandCount ma_place) (h_ma_broken : σ0 16 = .inl (cZ, 4, .inl (zA ma_broken))) (h_ma_brokeAt : σ0 17 = .inl (cI, 4, .inl (zA ma_brokeAt))) (h_ma_stitches : σ0 18 = .inl (cI, 4, .inl (zA ma_stitches))) (hf : f_L_breaks ma_broken ma_brokeAt ma_headCount ma_place p1 = some (R0, R_ma_broken, R_ma_brokeAt)) :
    Met l yL_breaks (Cond.codeWith yL_breaks cL_breaks 3 (some .int) [(0, 5, 8, 21), (0, 5, 11, 15)] :: wsL_law) rmL_breaks (zPreH D ad N (zT cI cZ cF cL cD) σ0 sz [.ref (ad 0), .int (zI p1)]) (zQi D ad N sz (fun r σ' => r = zI R0 ∧ σ' 16 = .inl (cZ, 4, .inl (zA R_ma_broken)) ∧ σ' 17 = .inl (cI, 4, .inl (zA R_ma_brokeAt)) ∧ ∀ i : Nat, i ≠ 16 → i ≠ 17 → σ' i = σ0 i)) 1 6 (zFr ad N sz) := by
  refine zMetH hI (by decide) (Nat.le_of_ble_eq_true rfl) ?_
  intro p e s m args below meth c Q hx hb hr hlocks hml hown hts htab hK hX hNc hsz hQ hH hA ls hl
  subst hsz
  have hl : lv_has ls 3 [(0, .ref (ad 0)), (1, .int (zI p1))] := hl
  have hk_sp : 0 < N := by omega
  have hk_b : 44 < N := by omega
  unfold f_L_breaks at hf
  refine lv_aload_n hx hb dL_breaks_0 rfl (lv_at hl 0 rfl) ?_
  refine lv_iload_n hx hb dL_breaks_1 rfl (lv_at hl 1 rfl) ?_
  obtain ⟨t, u0, u1, k1, hf⟩ := zb3_some hf
  refine zxVv (C := RX6) (As := [.int (zI p1)]) (rest := []) hx hb hml hown hts hl.1 hK hH hA (hX.kept hH.2.2.2.1) (c_X6_breaks hI hN hst h_sp h_ma h_ma_broken h_ma_brokeAt h_ma_stitches k1) zk_t4_74 zk_t4_75 zk_t4_76 zk_t1_1 zk_t4_77 hd_X6_breaks rfl ⟨rfl, rfl, Nat.le_of_ble_eq_true rfl, Nat.le_of_ble_eq_true rfl⟩ ⟨by decide, by decide⟩ hk_sp h_sp rfl rfl rfl (Nat.le_of_ble_eq_true rfl) dL_breaks_2 (fun E ce q9 σ1 H1 l1 hp hE hH hce hcv hcl => ?_) (fun σ1 H1 l1 hp hH => ?_)
  · replace hf := (if_pos (zEx_ne hE)).symm.trans hf
    obtain ⟨h_ma_broken, h_ma_brokeAt, hn⟩ := hp
    have hE0 := hE
    rcases hE0 with ⟨rfl, ht⟩ | ⟨rfl, ht⟩ | ⟨rfl, ht⟩
    · subst ht
      exact absurd hf (by simp)
    · subst ht
      refine vx_catch hown [⟨0, 5, 8, 21⟩] ⟨0, 5, 11, 15⟩ [] htab (fun z hz => by
          rcases List.mem_cons.mp hz with rfl | hz
          · exact Or.inr ⟨by decide, _, hts _ zk_t3_62, hNc _ (List.mem_of_getElem? (i := 3) rfl)⟩
          · exact nomatch hz) (by decide) (by decide) (hts _ zk_t2_124) (zcast hX zcb_2) hce hcv hcl ?_
      refine lv_astore_n (lv' := [(2, .ref q9), (0, .ref (ad 0)), (1, .int (zI p1))]) hx hb dL_breaks_11 rfl hl (by decide) rfl (fun ls hl => ?_)
      refine lv_iconst (v := zI 2) hx hb dL_breaks_12 (by decide +kernel) ?_
      cases hf
      exact zretW hx hb hr hlocks hQ hH ⟨rfl, h_ma_broken, h_ma_brokeAt, fun i a0 a1 => hn i a0 a1⟩ ⟨by decide, by decide⟩ dL_breaks_13
    · subst ht
      refine vx_catch hown [] ⟨0, 5, 8, 21⟩ [⟨0, 5, 11, 15⟩] htab (fun z hz => nomatch hz) (by decide) (by decide) (hts _ zk_t3_62) (zcast hX zcb_3) hce hcv hcl ?_
      refine lv_astore_n (lv' := [(2, .ref q9), (0, .ref (ad 0)), (1, .int (zI p1))]) hx hb dL_breaks_8 rfl hl (by decide) rfl (fun ls hl => ?_)
      refine lv_iconst (v := zI 1) hx hb dL_breaks_9 (by decide +kernel) ?_
      cases hf
      exact zretW hx hb hr hlocks hQ hH ⟨rfl, h_ma_broken, h_ma_brokeAt, fun i a0 a1 => hn i a0 a1⟩ ⟨by decide, by decide⟩ dL_breaks_10
  obtain ⟨ht0, h_ma_broken, h_ma_brokeAt, hn⟩ := hp
  replace hf := (if_neg (fun z => z ht0)).symm.trans hf
  refine lv_goto (tgt := 14) hx hb dL_breaks_5 (by decide) ?_
  refine lv_iconst (v := zI 0) hx hb dL_breaks_14 (by decide +kernel) ?_
  cases hf
  exact zretW hx hb hr hlocks hQ hH ⟨rfl, h_ma_broken, h_ma_brokeAt, fun i a0 a1 => hn i a0 a1⟩ ⟨by decide, by decide⟩ dL_breaks_15
def f_L_mend (ma_stitchesAhead : Int → Int) (ma_broken : Int → Int) (ma_brokeAt : Int → Int) (ma_stitches : Int → Int) (ma_headCount : Int) (ma_late : Int) (ma_commandCount : Int) (ma_place : Int) (p1 : Int) (lw_out : Int) : Option (Int × (Int → Int) × (Int → Int) × Int) :=
  zb4 (f_X6_mend ma_stitchesAhead ma_broken ma_brokeAt ma_stitches ma_headCount ma_late ma_commandCount ma_place p1) fun t r u0 u1 =>
  if ¬ t = 0 then
    if t = 3 then some (1, u0, u1, lw_out) else if t = 2 then some (2, u0, u1, lw_out) else none
  else
    some (0, u0, u1, r)
abbrev rmL_mend : Room := { frames := 7, cells := 1, slots := 6, locals := 113 }
theorem hd_L_mend : yL_mend.cls ≠ "java/lang/invoke/MethodHandle" ∧ yL_mend.cls ≠ "java/lang/invoke/VarHandle" ∧ (parseMethodDescriptor yL_mend.desc).map (fun d => d.parameters.length) = some 3 := by decide +kernel
set_option maxHeartbeats 4000000 in
set_option maxRecDepth 100000 in
theorem c_L_mend {l : Launch} {D : va_G} {cI cZ cF cL cD : ClassId} {ad : Nat → Nat} {N : Nat} (hI : ∀ i j, i < N → j < N → ad i = ad j → i = j) (hN : 46 ≤ N) (hst : l.stackTraces = false) {σ0 : Nat → va_E} {sz : Nat} {sp_fieldCount : Int} {sp_trimBound : Int} {sp_planned : Int} {ma_stitchesAhead : Int → Int} {ma_broken : Int → Int} {ma_brokeAt : Int → Int} {ma_stitches : Int → Int} {ma_headCount : Int} {ma_late : Int} {ma_commandCount : Int} {ma_place : Int} {p1 : Int} {lw_out : Int} {R0 : Int} {R_ma_broken : Int → Int} {R_ma_stitches : Int → Int} {R_lw_out : Int} (h_sp : σ0 0 = oC_sp ad sp_fieldCount sp_trimBound sp_planned) (h_ma : σ0 14 = oC_ma ad ma_headCount ma_late ma_commandCount ma_place) (h_ma_stitchesAhead : σ0 15 = .inl (cI, 16642, .inl (zA ma_stitchesAhead))) (h_ma_broken : σ0 16 = .inl (cZ, 4, .inl (zA ma_broken))) (h_ma_brokeAt : σ0 17 = .inl (cI, 4, .inl (zA ma_brokeAt))) (h_ma_stitches : σ0 18 = .inl (cI, 4, .inl (zA ma_stitches))) (h_out : zO cL σ0 lw_out) (hf : f_L_mend ma_stitchesAhead ma_broken ma_brokeAt ma_stitches ma_headCount ma_late ma_commandCount ma_place p1 lw_out = some (R0, R_ma_broken, R_ma_stitches, R_lw_out)) :
    Met l yL_mend (Cond.codeWith yL_mend cL_mend 4 (some .int) [(0, 9, 12, 21), (0, 9, 15, 15)] :: wsL_law) rmL_mend (zPreH D ad N (zT cI cZ cF cL cD) σ0 sz [.ref (ad 0), .int (zI p1), .ref (ad 44)]) (zQi D ad N sz (fun r σ' => r = zI R0 ∧ σ' 16 = .inl (cZ, 4, .inl (zA R_ma_broken)) ∧ σ' 18 = .inl (cI, 4, .inl (zA R_ma_stitches)) ∧ zO cL σ' R_lw_out ∧ ∀ i : Nat, i ≠ 16 → i ≠ 18 → i ≠ 44 → σ' i = σ0 i)) 1 6 (zFr ad N sz) := by
  refine zMetH hI (by decide) (Nat.le_of_ble_eq_true rfl) ?_
  intro p e s m args below meth c Q hx hb hr hlocks hml hown hts htab hK hX hNc hsz hQ hH hA ls hl
  subst hsz
  have hl : lv_has ls 4 [(0, .ref (ad 0)), (1, .int (zI p1)), (2, .ref (ad 44))] := hl
  have hk_sp : 0 < N := by omega
  have hk_b : 44 < N := by omega
  unfold f_L_mend at hf
  refine lv_aload_n hx hb dL_mend_0 rfl (lv_at hl 2 rfl) ?_
  refine lv_iconst (v := zI 0) hx hb dL_mend_1 (by decide +kernel) ?_
  refine lv_aload_n hx hb dL_mend_2 rfl (lv_at hl 0 rfl) ?_
  refine lv_iload_n hx hb dL_mend_3 rfl (lv_at hl 1 rfl) ?_
  obtain ⟨t, r, u0, u1, k1, hf⟩ := zb4_some hf
  refine zxVi (C := RX6) (As := [.int (zI p1)]) (rest := [.int (zI 0), .ref (ad 44)]) hx hb hml hown hts hl.1 hK hH hA (hX.kept hH.2.2.2.1) (c_X6_mend hI hN hst h_sp h_ma h_ma_stitchesAhead h_ma_broken h_ma_brokeAt h_ma_stitches k1) zk_t4_88 zk_t4_89 zk_t4_90 zk_t1_1 zk_t4_91 hd_X6_mend rfl ⟨rfl, rfl, Nat.le_of_ble_eq_true rfl, Nat.le_of_ble_eq_true rfl⟩ ⟨by decide, by decide⟩ hk_sp h_sp rfl rfl rfl (Nat.le_of_ble_eq_true rfl) dL_mend_4 (fun E ce q9 σ1 H1 l1 hp hE hH hce hcv hcl => ?_) (fun q1 σ1 H1 l1 hp hH => ?_)
  · replace hf := (if_pos (zEx_ne hE)).symm.trans hf
    obtain ⟨h_ma_broken, h_ma_stitches, hn⟩ := hp
    have hE0 := hE
    rcases hE0 with ⟨rfl, ht⟩ | ⟨rfl, ht⟩ | ⟨rfl, ht⟩
    · subst ht
      exact absurd hf (by simp)
    · subst ht
      refine vx_catch hown [⟨0, 9, 12, 21⟩] ⟨0, 9, 15, 15⟩ [] htab (fun z hz => by
          rcases List.mem_cons.mp hz with rfl | hz
          · exact Or.inr ⟨by decide, _, hts _ zk_t3_62, hNc _ (List.mem_of_getElem? (i := 3) rfl)⟩
          · exact nomatch hz) (by decide) (by decide) (hts _ zk_t2_124) (zcast hX zcb_2) hce hcv hcl ?_
      refine lv_astore_n (lv' := [(3, .ref q9), (0, .ref (ad 0)), (1, .int (zI p1)), (2, .ref (ad 44))]) hx hb dL_mend_15 rfl hl (by decide) rfl (fun ls hl => ?_)
      refine lv_iconst (v := zI 2) hx hb dL_mend_16 (by decide +kernel) ?_
      cases hf
      exact zretW hx hb hr hlocks hQ hH ⟨rfl, h_ma_broken, h_ma_stitches, (zO_keep h_out (hn 44 (by decide) (by decide))), fun i a0 a1 ab => hn i a0 a1⟩ ⟨by decide, by decide⟩ dL_mend_17
    · subst ht
      refine vx_catch hown [] ⟨0, 9, 12, 21⟩ [⟨0, 9, 15, 15⟩] htab (fun z hz => nomatch hz) (by decide) (by decide) (hts _ zk_t3_62) (zcast hX zcb_3) hce hcv hcl ?_
      refine lv_astore_n (lv' := [(3, .ref q9), (0, .ref (ad 0)), (1, .int (zI p1)), (2, .ref (ad 44))]) hx hb dL_mend_12 rfl hl (by decide) rfl (fun ls hl => ?_)
      refine lv_iconst (v := zI 1) hx hb dL_mend_13 (by decide +kernel) ?_
      cases hf
      exact zretW hx hb hr hlocks hQ hH ⟨rfl, h_ma_broken, h_ma_stitches, (zO_keep h_out (hn 44 (by decide) (by decide))), fun i a0 a1 ab => hn i a0 a1⟩ ⟨by decide, by decide⟩ dL_mend_14
  obtain ⟨ht0, hr1, h_ma_broken, h_ma_stitches, hn⟩ := hp
  replace hf := (if_neg (fun z => z ht0)).symm.trans hf
  subst hr1
  have h_out := (zO_keep h_out (hn 44 (by decide) (by decide)))
  refine lv_i2l hx hb dL_mend_7 rfl ?_
  refine zlast hx hb hK hH hk_b h_out rfl dL_mend_8 (fun σ2 H2 l2 h_out hn2 hH => ?_)
  have h_ma_broken := (hn2 16 (by decide)).trans h_ma_broken
  have h_ma_stitches := (hn2 18 (by decide)).trans h_ma_stitches
  refine lv_goto (tgt := 18) hx hb dL_mend_9 (by decide) ?_
  refine lv_iconst (v := zI 0) hx hb dL_mend_18 (by decide +kernel) ?_
  cases hf
  exact zretW hx hb hr hlocks hQ hH ⟨rfl, h_ma_broken, h_ma_stitches, h_out, fun i a0 a1 ab => (hn2 i ab).trans (hn i a0 a1)⟩ ⟨by decide, by decide⟩ dL_mend_19
def f_L_sewn (ma_stitches : Int → Int) (ma_headCount : Int) (p1 : Int) (lw_out : Int) : Option (Int × Int) :=
  zb2 (f_X6_sewn ma_stitches ma_headCount p1) fun t r =>
  if ¬ t = 0 then
    if t = 3 then some (1, lw_out) else none
  else
    some (0, r)
abbrev rmL_sewn : Room := { frames := 7, cells := 1, slots := 6, locals := 113 }
theorem hd_L_sewn : yL_sewn.cls ≠ "java/lang/invoke/MethodHandle" ∧ yL_sewn.cls ≠ "java/lang/invoke/VarHandle" ∧ (parseMethodDescriptor yL_sewn.desc).map (fun d => d.parameters.length) = some 3 := by decide +kernel
set_option maxHeartbeats 4000000 in
set_option maxRecDepth 100000 in
theorem c_L_sewn {l : Launch} {D : va_G} {cI cZ cF cL cD : ClassId} {ad : Nat → Nat} {N : Nat} (hI : ∀ i j, i < N → j < N → ad i = ad j → i = j) (hN : 46 ≤ N) (hst : l.stackTraces = false) {σ0 : Nat → va_E} {sz : Nat} {sp_fieldCount : Int} {sp_trimBound : Int} {sp_planned : Int} {ma_broken : Int → Int} {ma_brokeAt : Int → Int} {ma_stitches : Int → Int} {ma_headCount : Int} {ma_late : Int} {ma_commandCount : Int} {ma_place : Int} {p1 : Int} {lw_out : Int} {R0 : Int} {R_lw_out : Int} (h_sp : σ0 0 = oC_sp ad sp_fieldCount sp_trimBound sp_planned) (h_ma : σ0 14 = oC_ma ad ma_headCount ma_late ma_commandCount ma_place) (h_ma_broken : σ0 16 = .inl (cZ, 4, .inl (zA ma_broken))) (h_ma_brokeAt : σ0 17 = .inl (cI, 4, .inl (zA ma_brokeAt))) (h_ma_stitches : σ0 18 = .inl (cI, 4, .inl (zA ma_stitches))) (h_out : zO cL σ0 lw_out) (hf : f_L_sewn ma_stitches ma_headCount p1 lw_out = some (R0, R_lw_out)) :
    Met l yL_sewn (Cond.codeWith yL_sewn cL_sewn 4 (some .int) [(0, 9, 12, 21)] :: wsL_law) rmL_sewn (zPreH D ad N (zT cI cZ cF cL cD) σ0 sz [.ref (ad 0), .int (zI p1), .ref (ad 44)]) (zQi D ad N sz (fun r σ' => r = zI R0 ∧ zO cL σ' R_lw_out ∧ ∀ i : Nat, i ≠ 44 → σ' i = σ0 i)) 1 6 (zFr ad N sz) := by
  refine zMetH hI (by decide) (Nat.le_of_ble_eq_true rfl) ?_
  intro p e s m args below meth c Q hx hb hr hlocks hml hown hts htab hK hX hNc hsz hQ hH hA ls hl
  subst hsz
  have hl : lv_has ls 4 [(0, .ref (ad 0)), (1, .int (zI p1)), (2, .ref (ad 44))] := hl
  have hk_sp : 0 < N := by omega
  have hk_b : 44 < N := by omega
  unfold f_L_sewn at hf
  refine lv_aload_n hx hb dL_sewn_0 rfl (lv_at hl 2 rfl) ?_
  refine lv_iconst (v := zI 0) hx hb dL_sewn_1 (by decide +kernel) ?_
  refine lv_aload_n hx hb dL_sewn_2 rfl (lv_at hl 0 rfl) ?_
  refine lv_iload_n hx hb dL_sewn_3 rfl (lv_at hl 1 rfl) ?_
  obtain ⟨t, r, k1, hf⟩ := zb2_some hf
  refine zxVi (C := RX6) (As := [.int (zI p1)]) (rest := [.int (zI 0), .ref (ad 44)]) hx hb hml hown hts hl.1 hK hH hA (hX.kept hH.2.2.2.1) (c_X6_sewn hI hN hst h_sp h_ma h_ma_broken h_ma_brokeAt h_ma_stitches k1) zk_t4_102 zk_t4_103 zk_t4_104 zk_t1_1 zk_t4_105 hd_X6_sewn rfl ⟨rfl, rfl, Nat.le_of_ble_eq_true rfl, Nat.le_of_ble_eq_true rfl⟩ ⟨by decide, by decide⟩ hk_sp h_sp rfl rfl rfl (Nat.le_of_ble_eq_true rfl) dL_sewn_4 (fun E ce q9 σ1 H1 l1 hp hE hH hce hcv hcl => ?_) (fun q1 σ1 H1 l1 hp hH => ?_)
  · replace hf := (if_pos (zEx_ne hE)).symm.trans hf
    rw [hp] at hH
    have hE0 := hE
    rcases hE0 with ⟨rfl, ht⟩ | ⟨rfl, ht⟩ | ⟨rfl, ht⟩
    · subst ht
      exact absurd hf (by simp)
    · subst ht
      exact absurd hf (by simp)
    · subst ht
      refine vx_catch hown [] ⟨0, 9, 12, 21⟩ [] htab (fun z hz => nomatch hz) (by decide) (by decide) (hts _ zk_t3_62) (zcast hX zcb_3) hce hcv hcl ?_
      refine lv_astore_n (lv' := [(3, .ref q9), (0, .ref (ad 0)), (1, .int (zI p1)), (2, .ref (ad 44))]) hx hb dL_sewn_12 rfl hl (by decide) rfl (fun ls hl => ?_)
      refine lv_iconst (v := zI 1) hx hb dL_sewn_13 (by decide +kernel) ?_
      cases hf
      exact zretW hx hb hr hlocks hQ hH ⟨rfl, (zO_keep h_out (rfl)), fun i ab => rfl⟩ ⟨by decide, by decide⟩ dL_sewn_14
  obtain ⟨ht0, hr1, hs1⟩ := hp
  rw [hs1] at hH
  replace hf := (if_neg (fun z => z ht0)).symm.trans hf
  subst hr1
  have h_out := (zO_keep h_out (rfl))
  refine lv_i2l hx hb dL_sewn_7 rfl ?_
  refine zlast hx hb hK hH hk_b h_out rfl dL_sewn_8 (fun σ2 H2 l2 h_out hn2 hH => ?_)
  refine lv_goto (tgt := 15) hx hb dL_sewn_9 (by decide) ?_
  refine lv_iconst (v := zI 0) hx hb dL_sewn_15 (by decide +kernel) ?_
  cases hf
  exact zretW hx hb hr hlocks hQ hH ⟨rfl, h_out, fun i ab => (hn2 i ab).trans (rfl)⟩ ⟨by decide, by decide⟩ dL_sewn_16
