def f_law_corner (sp_fieldCount : Int) (sp_planned : Int) (F_fd_column : Int → Int) (F_fd_cornerXs : Int → Int → Int) (F_fd_cornerYs : Int → Int → Int) (F_fd_cornerCount : Int → Int) (F_fd_drawn : Int → Int) (mo_fields : Int) (mo_isColumn : Int → Int) (mo_corners : Int → Int) (mo_cornerX : Int → Int) (mo_cornerY : Int → Int) (mo_isKnown : Int) (mo_thrown : Int) (lw_out : Int) (nF : Int) (w1 : Int) (w2 : Int) (w3 : Int) : Option (Int × (Int → Int → Int) × (Int → Int → Int) × (Int → Int) × (Int → Int) × (Int → Int) × (Int → Int) × (Int → Int) × Int × Int × Int) :=
  zb7 (f_L_corner sp_fieldCount sp_planned F_fd_column F_fd_cornerXs F_fd_cornerYs F_fd_cornerCount F_fd_drawn nF w1 w2 w3 lw_out) fun r1 u2 u3 u4 u5 u6 u7 =>
  zb6 (f_X7_corner mo_fields mo_isColumn mo_corners mo_cornerX mo_cornerY mo_isKnown mo_thrown w1 w2 w3) fun r11 a12 a13 a14 u15 u16 =>
  zb1 (f_X7_thrown u16) fun r20 =>
  zck (zR r20 ∧ zR r1) <|
  if r20 = r1 then
    zck (zR r1) <|
    if r1 = 0 then
      zck (zR u7 ∧ zR r11) <|
      if u7 = r11 then
        some (u2, u3, u4, u5, u6, a12, a13, a14, u15, u16, u7)
      else
        none
    else
      some (u2, u3, u4, u5, u6, a12, a13, a14, u15, u16, u7)
  else
    none
set_option maxHeartbeats 4000000 in
set_option maxRecDepth 100000 in
theorem w_law_corner {p : Program} {l : Launch} {e : Env} {s : State} {m : MethodId} {args : Array Value} {below : List Frame} {meth : Method} {c : Code} {Q : State → Prop} {D : va_G} {cI cZ cF cL cD : ClassId} {b L : Nat} {xs : Nat → Int32} {A : Nat → Prop} (hx : p.tables.exec = Jvm.exec) (hb : c.code = code) (hml : c.maxLocals = 10) (hown : s.vm.findClass RL = some m.cls) (hts : ∀ w ∈ wsL_law, w.before args s = true) (hst : l.stackTraces = false) (hNc : zNc s) (hX0 : va_X b L xs s s.heap) (hbl : b < s.heap.size) (hbA : ¬ A b) (hA : ∀ q, s.heap.size ≤ q → A q) (hK : zK D (zT cI cZ cF cL cD) s) (hXs : zXs A s s.heap) (hL : L ≤ 3584)
    {ad : Nat → Nat} {N : Nat} {nF : Int} (hN : 46 ≤ N) (hNF : N = 46 + 7 * nF.toNat) {σ0 : Nat → va_E} {H : Heap} {locs : List Loc} {cells slots : Nat} (hH : zH D ad N A s.heap σ0 H locs) {sp_fieldCount : Int} {sp_trimBound : Int} {sp_planned : Int} {F_fd_colour : Int → Int} {F_fd_layer : Int → Int} {F_fd_column : Int → Int} {F_fd_cornerXs : Int → Int → Int} {F_fd_cornerYs : Int → Int → Int} {F_fd_crossings : Int → Int → Int} {F_fd_cornerCount : Int → Int} {F_fd_crossingCount : Int → Int} {F_fd_density : Int → Int} {F_fd_length : Int → Int} {F_fd_shift : Int → Int} {F_fd_pull : Int → Int} {F_fd_underlay : Int → Int} {F_fd_drawn : Int → Int} {F_pt_xs : Int → Int → Int} {F_pt_ys : Int → Int → Int} {F_pt_size : Int → Int} {mo_fields : Int} {mo_isColumn : Int → Int} {mo_corners : Int → Int} {mo_cornerX : Int → Int} {mo_cornerY : Int → Int} {mo_bound : Int} {mo_points : Int} {mo_crossings : Int} {mo_isKnown : Int} {mo_commands : Int} {mo_needleX : Int} {mo_needleY : Int} {mo_hasFile : Int} {mo_format : Int} {mo_length : Int} {mo_heads : Int} {mo_late : Int} {mo_ran : Int} {mo_program : Int} {mo_thrown : Int} {mo_rowY : Int} {mo_stitches : Int} {lw_out : Int} {R_sp_planned : Int} {R_F_fd_cornerXs : Int → Int → Int} {R_F_fd_cornerYs : Int → Int → Int} {R_F_fd_cornerCount : Int → Int} {R_F_fd_drawn : Int → Int} {R_mo_corners : Int → Int} {R_mo_cornerX : Int → Int} {R_mo_cornerY : Int → Int} {R_mo_isKnown : Int} {R_mo_thrown : Int} {R_lw_out : Int} (h_sp : σ0 0 = oC_sp ad sp_fieldCount sp_trimBound sp_planned) (h_sp_fields : σ0 1 = .inl (cF, 8, .inr (.inr (.inr (.inr (zFA ad nF)))))) (h_mo : σ0 19 = oC_mo ad mo_fields mo_bound mo_points mo_crossings mo_isKnown mo_commands mo_needleX mo_needleY mo_hasFile mo_format mo_length mo_heads mo_late mo_ran mo_program mo_thrown mo_rowY mo_stitches) (h_mo_isColumn : σ0 22 = .inl (cZ, 8, .inl (zA mo_isColumn))) (h_mo_corners : σ0 23 = .inl (cI, 8, .inl (zA mo_corners))) (h_mo_cornerX : σ0 24 = .inl (cI, 64, .inl (zA mo_cornerX))) (h_mo_cornerY : σ0 25 = .inl (cI, 64, .inl (zA mo_cornerY))) (h_lw_out : zO cL σ0 lw_out) (h_FF : zFF ad cI nF σ0 F_fd_colour F_fd_layer F_fd_column F_fd_cornerXs F_fd_cornerYs F_fd_crossings F_fd_cornerCount F_fd_crossingCount F_fd_density F_fd_length F_fd_shift F_fd_pull F_fd_underlay F_fd_drawn F_pt_xs F_pt_ys F_pt_size) {ii : Int} (hiL : 0 ≤ ii ∧ ii + 7 ≤ L) {w1 : Int} (hw1 : xs (ii.toNat + 1) = zI w1) (hR1 : zR w1) {w2 : Int} (hw2 : xs (ii.toNat + 2) = zI w2) (hR2 : zR w2) {w3 : Int} (hw3 : xs (ii.toNat + 3) = zI w3) (hR3 : zR w3) (hcs : cells + 9 ≤ 83562 ∧ slots + 4300 ≤ 8845420) {ls : Array Slot} (hl : lv_has ls 10 [(0, .ref b), (1, .ref (ad 0)), (2, .ref (ad 19)), (3, .ref (ad 44)), (4, .ref (ad 45)), (5, .int (zI ii))]) (hf : f_law_corner sp_fieldCount sp_planned F_fd_column F_fd_cornerXs F_fd_cornerYs F_fd_cornerCount F_fd_drawn mo_fields mo_isColumn mo_corners mo_cornerX mo_cornerY mo_isKnown mo_thrown lw_out nF w1 w2 w3 = some (R_sp_planned, R_F_fd_cornerXs, R_F_fd_cornerYs, R_F_fd_cornerCount, R_F_fd_drawn, R_mo_corners, R_mo_cornerX, R_mo_cornerY, R_mo_isKnown, R_mo_thrown, R_lw_out))
    (kk : ∀ (σ : Nat → va_E) (H : Heap) (locs : List Loc) (cells1 slots1 : Nat), cells1 ≤ cells + 9 → slots1 ≤ slots + 4300 → zH D ad N A s.heap σ H locs → ∀ (h_sp : σ 0 = oC_sp ad sp_fieldCount sp_trimBound R_sp_planned) (h_mo : σ 19 = oC_mo ad mo_fields mo_bound mo_points mo_crossings R_mo_isKnown mo_commands mo_needleX mo_needleY mo_hasFile mo_format mo_length mo_heads mo_late mo_ran mo_program R_mo_thrown mo_rowY mo_stitches) (h_mo_corners : σ 23 = .inl (cI, 8, .inl (zA R_mo_corners))) (h_mo_cornerX : σ 24 = .inl (cI, 64, .inl (zA R_mo_cornerX))) (h_mo_cornerY : σ 25 = .inl (cI, 64, .inl (zA R_mo_cornerY))) (h_lw_out : zO cL σ R_lw_out) (h_FF : zFF ad cI nF σ F_fd_colour F_fd_layer F_fd_column R_F_fd_cornerXs R_F_fd_cornerYs F_fd_crossings R_F_fd_cornerCount F_fd_crossingCount F_fd_density F_fd_length F_fd_shift F_fd_pull F_fd_underlay R_F_fd_drawn F_pt_xs F_pt_ys F_pt_size), ∀ (hbg : ∀ i : Nat, i < 46 → i ≠ 0 → i ≠ 19 → i ≠ 23 → i ≠ 24 → i ≠ 25 → i ≠ 44 → σ i = σ0 i) (ls : Array Slot), lv_has ls 10 [(0, .ref b), (1, .ref (ad 0)), (2, .ref (ad 19)), (3, .ref (ad 44)), (4, .ref (ad 45)), (5, .int (zI ii))] → W p l e room_1 s m args below meth c H locs cells1 slots1 Q (F0 m 1430 ls [])) : W p l e room_1 s m args below meth c H locs cells slots Q (F0 m 248 ls []) := by
  have hI := zD_inj hH.2.1
  have g_c : cells ≤ 83562 := by omega
  have g_s : slots ≤ 8845420 := by omega
  have hk_out : 44 < N := by omega
  have hk_outD : 45 < N := by omega
  have hk_sp : 0 < N := by omega
  have hk_sp_fields : 1 < N := by omega
  have hk_mo : 19 < N := by omega
  have hk_mo_isColumn : 22 < N := by omega
  have hk_mo_corners : 23 < N := by omega
  have hk_mo_cornerX : 24 < N := by omega
  have hk_mo_cornerY : 25 < N := by omega
  have hbg : ∀ i : Nat, i < 46 → i ≠ 0 → i ≠ 19 → i ≠ 23 → i ≠ 24 → i ≠ 25 → i ≠ 44 → σ0 i = σ0 i := fun _ _ _ _ _ _ _ _ => rfl
  unfold f_law_corner at hf
  refine lv_aload_n hx hb dL_law_248 rfl (lv_at hl 1 rfl) ?_
  refine lv_aload_n hx hb dL_law_249 rfl (lv_at hl 0 rfl) ?_
  refine lv_iload hx hb dL_law_250 (lv_at hl 5 rfl) ?_
  refine lv_iconst (v := zI 1) hx hb dL_law_252 (by decide +kernel) ?_
  refine lz_iadd hx hb dL_law_253 ?_
  refine lz_sld hx hb hX0 hbl hbA hH.2.2 hiL hL 1 (by decide) hw1 dL_law_254 ?_
  refine lv_aload_n hx hb dL_law_255 rfl (lv_at hl 0 rfl) ?_
  refine lv_iload hx hb dL_law_256 (lv_at hl 5 rfl) ?_
  refine lv_iconst (v := zI 2) hx hb dL_law_258 (by decide +kernel) ?_
  refine lz_iadd hx hb dL_law_259 ?_
  refine lz_sld hx hb hX0 hbl hbA hH.2.2 hiL hL 2 (by decide) hw2 dL_law_260 ?_
  refine lv_aload_n hx hb dL_law_261 rfl (lv_at hl 0 rfl) ?_
  refine lv_iload hx hb dL_law_262 (lv_at hl 5 rfl) ?_
  refine lv_iconst (v := zI 3) hx hb dL_law_264 (by decide +kernel) ?_
  refine lz_iadd hx hb dL_law_265 ?_
  refine lz_sld hx hb hX0 hbl hbA hH.2.2 hiL hL 3 (by decide) hw3 dL_law_266 ?_
  refine lv_aload_n hx hb dL_law_267 rfl (lv_at hl 3 rfl) ?_
  obtain ⟨r1, u2, u3, u4, u5, u6, u7, k8, hf⟩ := zb7_some hf
  refine zcH (As := [.ref (ad 0), .int (zI w1), .int (zI w2), .int (zI w3), .ref (ad 44)]) (rest := []) hx hb hml hown hts hl.1 hK hH hA (hXs.kept hH.2.2.2.1) hNc (c_L_corner (zD_inj hH.2.1) hN hNF hst h_sp h_sp_fields h_FF h_lw_out k8) zk_t3_59 zk_t3_60 zk_t1_0 zk_t3_61 hd_L_corner rfl ⟨rfl, rfl, Nat.le_of_ble_eq_true rfl, Nat.le_of_ble_eq_true rfl⟩ ⟨by show _ ≤ 83562; omega, by show _ ≤ 8845420; omega⟩ rfl (Nat.le_of_ble_eq_true rfl) dL_law_268 (fun q10 σ9 Hσ9 lσ9 hp hH => ?_)
  obtain ⟨hr1, h_sp, h_FF, h_lw_out, hn⟩ := hp
  subst hr1
  have h_sp_fields := (hn 1 (by decide) (by decide) (by decide)).trans h_sp_fields
  have h_mo := (hn 19 (by decide) (by decide) (by decide)).trans h_mo
  have h_mo_isColumn := (hn 22 (by decide) (by decide) (by decide)).trans h_mo_isColumn
  have h_mo_corners := (hn 23 (by decide) (by decide) (by decide)).trans h_mo_corners
  have h_mo_cornerX := (hn 24 (by decide) (by decide) (by decide)).trans h_mo_cornerX
  have h_mo_cornerY := (hn 25 (by decide) (by decide) (by decide)).trans h_mo_cornerY
  have hbg : ∀ i : Nat, i < 46 → i ≠ 0 → i ≠ 19 → i ≠ 23 → i ≠ 24 → i ≠ 25 → i ≠ 44 → σ9 i = σ0 i := fun i h46 a0 a1 a2 a3 a4 a5 => (hn i h46 a0 a5).trans (hbg i h46 a0 a1 a2 a3 a4 a5)
  have g_c : cells + 2 ≤ 83562 := by omega
  have g_s : slots + 12 ≤ 8845420 := by omega
  refine lv_istore (lv' := [(6, .int (zI r1)), (0, .ref b), (1, .ref (ad 0)), (2, .ref (ad 19)), (3, .ref (ad 44)), (4, .ref (ad 45)), (5, .int (zI ii))]) hx hb dL_law_271 hl (by decide) rfl (fun ls hl => ?_)
  refine lv_aload_n hx hb dL_law_273 rfl (lv_at hl 3 rfl) ?_
  refine lv_aload_n hx hb dL_law_274 rfl (lv_at hl 1 rfl) ?_
  refine lv_iload hx hb dL_law_275 (lv_at hl 6 rfl) ?_
  refine lv_iconst (v := zI 1) hx hb dL_law_277 (by decide +kernel) ?_
  refine lz_iadd hx hb dL_law_278 ?_
  refine lz_sld hx hb hX0 hbl hbA hH.2.2 hiL hL 1 (by decide) hw1 dL_law_279 ?_
  refine lv_aload_n hx hb dL_law_280 rfl (lv_at hl 1 rfl) ?_
  refine lv_iload hx hb dL_law_281 (lv_at hl 6 rfl) ?_
  refine lv_iconst (v := zI 2) hx hb dL_law_283 (by decide +kernel) ?_
  refine lz_iadd hx hb dL_law_284 ?_
  refine lz_sld hx hb hX0 hbl hbA hH.2.2 hiL hL 2 (by decide) hw2 dL_law_285 ?_
  refine lv_aload_n hx hb dL_law_286 rfl (lv_at hl 1 rfl) ?_
  refine lv_iload hx hb dL_law_287 (lv_at hl 6 rfl) ?_
  refine lv_iconst (v := zI 3) hx hb dL_law_289 (by decide +kernel) ?_
  refine lz_iadd hx hb dL_law_290 ?_
  refine lz_sld hx hb hX0 hbl hbA hH.2.2 hiL hL 3 (by decide) hw3 dL_law_291 ?_
  obtain ⟨r11, a12, a13, a14, u15, u16, k17, hf⟩ := zb6_some hf
  refine zcVi (C := RX7) (As := [.int (zI w1), .int (zI w2), .int (zI w3)]) (rest := []) hx hb hml hown hts hl.1 hK hH hA (c_X7_corner hI hN  h_mo h_mo_isColumn h_mo_corners h_mo_cornerX h_mo_cornerY k17) zk_t5_19 zk_t5_20 zk_t5_21 zk_t1_6 zk_t5_22 hd_X7_corner rfl ⟨rfl, rfl, Nat.le_of_ble_eq_true rfl, Nat.le_of_ble_eq_true rfl⟩ ⟨g_c, g_s⟩ hk_mo h_mo rfl rfl rfl (Nat.le_of_ble_eq_true rfl) dL_law_292 (fun q19 σ18 Hσ18 lσ18 hp hH => ?_)
  obtain ⟨hr1, h_mo, h_mo_corners, h_mo_cornerX, h_mo_cornerY, hn⟩ := hp
  replace hr1 := hr1.symm; subst hr1
  have h_sp := (hn 0 (by decide) (by decide) (by decide) (by decide)).trans h_sp
  have h_sp_fields := (hn 1 (by decide) (by decide) (by decide) (by decide)).trans h_sp_fields
  have h_mo_isColumn := (hn 22 (by decide) (by decide) (by decide) (by decide)).trans h_mo_isColumn
  have h_FF := zFF_keep (fun i hi => hn i (by omega) (by omega) (by omega) (by omega)) h_FF
  have hbg : ∀ i : Nat, i < 46 → i ≠ 0 → i ≠ 19 → i ≠ 23 → i ≠ 24 → i ≠ 25 → i ≠ 44 → σ18 i = σ0 i := fun i h46 a0 a1 a2 a3 a4 a5 => (hn i a1 a2 a3 a4).trans (hbg i h46 a0 a1 a2 a3 a4 a5)
  have h_lw_out := zO_keep h_lw_out (hn 44 (by decide) (by decide) (by decide) (by decide))
  refine lv_istore (lv' := [(7, .int (zI r11)), (6, .int (zI r1)), (0, .ref b), (1, .ref (ad 0)), (2, .ref (ad 19)), (3, .ref (ad 44)), (4, .ref (ad 45)), (5, .int (zI ii))]) hx hb dL_law_295 hl (by decide) rfl (fun ls hl => ?_)
  refine lv_aload_n hx hb dL_law_297 rfl (lv_at hl 4 rfl) ?_
  obtain ⟨r20, k21, hf⟩ := zb1_some hf
  refine zcVi (C := RX7) (As := []) (rest := []) hx hb hml hown hts hl.1 hK hH hA (c_X7_thrown hI hN  h_mo k21) zk_t5_0 zk_t5_1 zk_t5_2 zk_t1_6 zk_t5_3 hd_X7_thrown rfl ⟨rfl, rfl, Nat.le_of_ble_eq_true rfl, Nat.le_of_ble_eq_true rfl⟩ ⟨g_c, g_s⟩ hk_mo h_mo rfl rfl rfl (Nat.le_of_ble_eq_true rfl) dL_law_298 (fun q23 σ22 Hσ22 lσ22 hp hH => ?_)
  obtain ⟨hr1, hs1⟩ := hp; replace hr1 := hr1.symm; subst hr1; rw [hs1] at hH
  refine lv_iload hx hb dL_law_301 (lv_at hl 1 rfl) ?_
  obtain ⟨k24, hf⟩ := zck_some hf
  refine lz_icmp_eq (tgt := 308) hx hb k24 dL_law_303 (by decide) (fun c25 => ?_) (fun c25 => ?_)
  · replace hf := (if_pos c25).symm.trans hf
    refine lv_iload hx hb dL_law_308 (lv_at hl 1 rfl) ?_
    obtain ⟨k26, hf⟩ := zck_some hf
    refine lz_if_ne (tgt := 325) hx hb k26 dL_law_310 (by decide) (fun c27 => ?_) (fun c27 => ?_)
    · replace hf := (if_neg c27).symm.trans hf
      refine lv_goto (tgt := 1430) hx hb dL_law_325 (by decide) ?_
      cases hf
      exact kk _ _ _ _ _ (by omega) (by omega) hH h_sp h_mo h_mo_corners h_mo_cornerX h_mo_cornerY h_lw_out h_FF hbg _ (lv_sub hl [2, 3, 4, 5, 6, 7] rfl)
    · replace hf := (if_pos c27).symm.trans hf
      refine lv_aload_n hx hb dL_law_313 rfl (lv_at hl 5 rfl) ?_
      refine lv_iconst (v := zI 0) hx hb dL_law_314 (by decide +kernel) ?_
      refine zlald hx hb hK hH hk_out h_lw_out rfl dL_law_315 ?_
      refine lv_iload hx hb dL_law_316 (lv_at hl 0 rfl) ?_
      refine lv_i2l hx hb dL_law_318 rfl ?_
      obtain ⟨k28, hf⟩ := zck_some hf
      refine lz_lcmpeq (tgt := 325) hx hb k28 dL_law_319 dL_law_320 (by decide) (fun c29 => ?_) (fun c29 => ?_)
      · replace hf := (if_pos c29).symm.trans hf
        refine lv_goto (tgt := 1430) hx hb dL_law_325 (by decide) ?_
        cases hf
        exact kk _ _ _ _ _ (by omega) (by omega) hH h_sp h_mo h_mo_corners h_mo_cornerX h_mo_cornerY h_lw_out h_FF hbg _ (lv_sub hl [2, 3, 4, 5, 6, 7] rfl)
      · replace hf := (if_neg c29).symm.trans hf
        refine lv_iconst (v := zI 0) hx hb dL_law_323 (by decide +kernel) ?_
        cases hf
  · replace hf := (if_neg c25).symm.trans hf
    refine lv_iconst (v := zI 0) hx hb dL_law_306 (by decide +kernel) ?_
    cases hf
def f_law_sew (sp_fieldCount : Int) (sp_planned : Int) (F_fd_density : Int → Int) (F_fd_length : Int → Int) (F_fd_shift : Int → Int) (F_fd_pull : Int → Int) (F_fd_underlay : Int → Int) (F_fd_drawn : Int → Int) (mo_fields : Int) (mo_density : Int → Int) (mo_longest : Int → Int) (mo_shift : Int → Int) (mo_pull : Int → Int) (mo_hasUnderlay : Int → Int) (mo_isKnown : Int) (mo_thrown : Int) (nF : Int) (w1 : Int) (w2 : Int) (w3 : Int) (w4 : Int) (w5 : Int) (w6 : Int) : Option (Int × (Int → Int) × (Int → Int) × (Int → Int) × (Int → Int) × (Int → Int) × (Int → Int) × (Int → Int) × (Int → Int) × (Int → Int) × (Int → Int) × (Int → Int) × Int × Int) :=
  zb8 (f_L_sew sp_fieldCount sp_planned F_fd_density F_fd_length F_fd_shift F_fd_pull F_fd_underlay F_fd_drawn nF w1 w2 w3 w4 w5 (if w6 = 0 then 0 else 1)) fun r1 u2 u3 u4 u5 u6 u7 u8 =>
  zb7 (f_X7_sew mo_fields mo_density mo_longest mo_shift mo_pull mo_hasUnderlay mo_isKnown mo_thrown w1 w2 w3 w4 w5 (if w6 = 0 then 0 else 1)) fun a12 a13 a14 a15 a16 u17 u18 =>
  zb1 (f_X7_thrown u18) fun r21 =>
  zck (zR r21 ∧ zR r1) <|
  if r21 = r1 then
    some (u2, u3, u4, u5, u6, u7, u8, a12, a13, a14, a15, a16, u17, u18)
  else
    none
set_option maxHeartbeats 4000000 in
set_option maxRecDepth 100000 in
theorem w_law_sew {p : Program} {l : Launch} {e : Env} {s : State} {m : MethodId} {args : Array Value} {below : List Frame} {meth : Method} {c : Code} {Q : State → Prop} {D : va_G} {cI cZ cF cL cD : ClassId} {b L : Nat} {xs : Nat → Int32} {A : Nat → Prop} (hx : p.tables.exec = Jvm.exec) (hb : c.code = code) (hml : c.maxLocals = 10) (hown : s.vm.findClass RL = some m.cls) (hts : ∀ w ∈ wsL_law, w.before args s = true) (hst : l.stackTraces = false) (hNc : zNc s) (hX0 : va_X b L xs s s.heap) (hbl : b < s.heap.size) (hbA : ¬ A b) (hA : ∀ q, s.heap.size ≤ q → A q) (hK : zK D (zT cI cZ cF cL cD) s) (hXs : zXs A s s.heap) (hL : L ≤ 3584)
    {ad : Nat → Nat} {N : Nat} {nF : Int} (hN : 46 ≤ N) (hNF : N = 46 + 7 * nF.toNat) {σ0 : Nat → va_E} {H : Heap} {locs : List Loc} {cells slots : Nat} (hH : zH D ad N A s.heap σ0 H locs) {sp_fieldCount : Int} {sp_trimBound : Int} {sp_planned : Int} {F_fd_colour : Int → Int} {F_fd_layer : Int → Int} {F_fd_column : Int → Int} {F_fd_cornerXs : Int → Int → Int} {F_fd_cornerYs : Int → Int → Int} {F_fd_crossings : Int → Int → Int} {F_fd_cornerCount : Int → Int} {F_fd_crossingCount : Int → Int} {F_fd_density : Int → Int} {F_fd_length : Int → Int} {F_fd_shift : Int → Int} {F_fd_pull : Int → Int} {F_fd_underlay : Int → Int} {F_fd_drawn : Int → Int} {F_pt_xs : Int → Int → Int} {F_pt_ys : Int → Int → Int} {F_pt_size : Int → Int} {mo_fields : Int} {mo_density : Int → Int} {mo_longest : Int → Int} {mo_shift : Int → Int} {mo_pull : Int → Int} {mo_hasUnderlay : Int → Int} {mo_bound : Int} {mo_points : Int} {mo_crossings : Int} {mo_isKnown : Int} {mo_commands : Int} {mo_needleX : Int} {mo_needleY : Int} {mo_hasFile : Int} {mo_format : Int} {mo_length : Int} {mo_heads : Int} {mo_late : Int} {mo_ran : Int} {mo_program : Int} {mo_thrown : Int} {mo_rowY : Int} {mo_stitches : Int} {R_sp_planned : Int} {R_F_fd_density : Int → Int} {R_F_fd_length : Int → Int} {R_F_fd_shift : Int → Int} {R_F_fd_pull : Int → Int} {R_F_fd_underlay : Int → Int} {R_F_fd_drawn : Int → Int} {R_mo_density : Int → Int} {R_mo_longest : Int → Int} {R_mo_shift : Int → Int} {R_mo_pull : Int → Int} {R_mo_hasUnderlay : Int → Int} {R_mo_isKnown : Int} {R_mo_thrown : Int} (h_sp : σ0 0 = oC_sp ad sp_fieldCount sp_trimBound sp_planned) (h_sp_fields : σ0 1 = .inl (cF, 8, .inr (.inr (.inr (.inr (zFA ad nF)))))) (h_mo : σ0 19 = oC_mo ad mo_fields mo_bound mo_points mo_crossings mo_isKnown mo_commands mo_needleX mo_needleY mo_hasFile mo_format mo_length mo_heads mo_late mo_ran mo_program mo_thrown mo_rowY mo_stitches) (h_mo_density : σ0 26 = .inl (cI, 8, .inl (zA mo_density))) (h_mo_longest : σ0 27 = .inl (cI, 8, .inl (zA mo_longest))) (h_mo_shift : σ0 28 = .inl (cI, 8, .inl (zA mo_shift))) (h_mo_pull : σ0 29 = .inl (cI, 8, .inl (zA mo_pull))) (h_mo_hasUnderlay : σ0 30 = .inl (cZ, 8, .inl (zA mo_hasUnderlay))) (h_FF : zFF ad cI nF σ0 F_fd_colour F_fd_layer F_fd_column F_fd_cornerXs F_fd_cornerYs F_fd_crossings F_fd_cornerCount F_fd_crossingCount F_fd_density F_fd_length F_fd_shift F_fd_pull F_fd_underlay F_fd_drawn F_pt_xs F_pt_ys F_pt_size) {ii : Int} (hiL : 0 ≤ ii ∧ ii + 7 ≤ L) {w1 : Int} (hw1 : xs (ii.toNat + 1) = zI w1) (hR1 : zR w1) {w2 : Int} (hw2 : xs (ii.toNat + 2) = zI w2) (hR2 : zR w2) {w3 : Int} (hw3 : xs (ii.toNat + 3) = zI w3) (hR3 : zR w3) {w4 : Int} (hw4 : xs (ii.toNat + 4) = zI w4) (hR4 : zR w4) {w5 : Int} (hw5 : xs (ii.toNat + 5) = zI w5) (hR5 : zR w5) {w6 : Int} (hw6 : xs (ii.toNat + 6) = zI w6) (hR6 : zR w6) (hcs : cells + 9 ≤ 83562 ∧ slots + 4300 ≤ 8845420) {ls : Array Slot} (hl : lv_has ls 10 [(0, .ref b), (1, .ref (ad 0)), (2, .ref (ad 19)), (3, .ref (ad 44)), (4, .ref (ad 45)), (5, .int (zI ii))]) (hf : f_law_sew sp_fieldCount sp_planned F_fd_density F_fd_length F_fd_shift F_fd_pull F_fd_underlay F_fd_drawn mo_fields mo_density mo_longest mo_shift mo_pull mo_hasUnderlay mo_isKnown mo_thrown nF w1 w2 w3 w4 w5 w6 = some (R_sp_planned, R_F_fd_density, R_F_fd_length, R_F_fd_shift, R_F_fd_pull, R_F_fd_underlay, R_F_fd_drawn, R_mo_density, R_mo_longest, R_mo_shift, R_mo_pull, R_mo_hasUnderlay, R_mo_isKnown, R_mo_thrown))
    (kk : ∀ (σ : Nat → va_E) (H : Heap) (locs : List Loc) (cells1 slots1 : Nat), cells1 ≤ cells + 9 → slots1 ≤ slots + 4300 → zH D ad N A s.heap σ H locs → ∀ (h_sp : σ 0 = oC_sp ad sp_fieldCount sp_trimBound R_sp_planned) (h_mo : σ 19 = oC_mo ad mo_fields mo_bound mo_points mo_crossings R_mo_isKnown mo_commands mo_needleX mo_needleY mo_hasFile mo_format mo_length mo_heads mo_late mo_ran mo_program R_mo_thrown mo_rowY mo_stitches) (h_mo_density : σ 26 = .inl (cI, 8, .inl (zA R_mo_density))) (h_mo_longest : σ 27 = .inl (cI, 8, .inl (zA R_mo_longest))) (h_mo_shift : σ 28 = .inl (cI, 8, .inl (zA R_mo_shift))) (h_mo_pull : σ 29 = .inl (cI, 8, .inl (zA R_mo_pull))) (h_mo_hasUnderlay : σ 30 = .inl (cZ, 8, .inl (zA R_mo_hasUnderlay))) (h_FF : zFF ad cI nF σ F_fd_colour F_fd_layer F_fd_column F_fd_cornerXs F_fd_cornerYs F_fd_crossings F_fd_cornerCount F_fd_crossingCount R_F_fd_density R_F_fd_length R_F_fd_shift R_F_fd_pull R_F_fd_underlay R_F_fd_drawn F_pt_xs F_pt_ys F_pt_size), ∀ (hbg : ∀ i : Nat, i < 46 → i ≠ 0 → i ≠ 19 → i ≠ 26 → i ≠ 27 → i ≠ 28 → i ≠ 29 → i ≠ 30 → σ i = σ0 i) (ls : Array Slot), lv_has ls 10 [(0, .ref b), (1, .ref (ad 0)), (2, .ref (ad 19)), (3, .ref (ad 44)), (4, .ref (ad 45)), (5, .int (zI ii))] → W p l e room_1 s m args below meth c H locs cells1 slots1 Q (F0 m 1430 ls [])) : W p l e room_1 s m args below meth c H locs cells slots Q (F0 m 328 ls []) := by
  have hI := zD_inj hH.2.1
  have g_c : cells ≤ 83562 := by omega
  have g_s : slots ≤ 8845420 := by omega
  have hk_out : 44 < N := by omega
  have hk_outD : 45 < N := by omega
  have hk_sp : 0 < N := by omega
  have hk_sp_fields : 1 < N := by omega
  have hk_mo : 19 < N := by omega
  have hk_mo_density : 26 < N := by omega
  have hk_mo_longest : 27 < N := by omega
  have hk_mo_shift : 28 < N := by omega
  have hk_mo_pull : 29 < N := by omega
  have hk_mo_hasUnderlay : 30 < N := by omega
  have hbg : ∀ i : Nat, i < 46 → i ≠ 0 → i ≠ 19 → i ≠ 26 → i ≠ 27 → i ≠ 28 → i ≠ 29 → i ≠ 30 → σ0 i = σ0 i := fun _ _ _ _ _ _ _ _ _ => rfl
  unfold f_law_sew at hf
  refine lv_aload_n hx hb dL_law_328 rfl (lv_at hl 1 rfl) ?_
  refine lv_aload_n hx hb dL_law_329 rfl (lv_at hl 0 rfl) ?_
  refine lv_iload hx hb dL_law_330 (lv_at hl 5 rfl) ?_
  refine lv_iconst (v := zI 1) hx hb dL_law_332 (by decide +kernel) ?_
  refine lz_iadd hx hb dL_law_333 ?_
  refine lz_sld hx hb hX0 hbl hbA hH.2.2 hiL hL 1 (by decide) hw1 dL_law_334 ?_
  refine lv_aload_n hx hb dL_law_335 rfl (lv_at hl 0 rfl) ?_
  refine lv_iload hx hb dL_law_336 (lv_at hl 5 rfl) ?_
  refine lv_iconst (v := zI 2) hx hb dL_law_338 (by decide +kernel) ?_
  refine lz_iadd hx hb dL_law_339 ?_
  refine lz_sld hx hb hX0 hbl hbA hH.2.2 hiL hL 2 (by decide) hw2 dL_law_340 ?_
  refine lv_aload_n hx hb dL_law_341 rfl (lv_at hl 0 rfl) ?_
  refine lv_iload hx hb dL_law_342 (lv_at hl 5 rfl) ?_
  refine lv_iconst (v := zI 3) hx hb dL_law_344 (by decide +kernel) ?_
  refine lz_iadd hx hb dL_law_345 ?_
  refine lz_sld hx hb hX0 hbl hbA hH.2.2 hiL hL 3 (by decide) hw3 dL_law_346 ?_
  refine lv_aload_n hx hb dL_law_347 rfl (lv_at hl 0 rfl) ?_
  refine lv_iload hx hb dL_law_348 (lv_at hl 5 rfl) ?_
  refine lv_iconst (v := zI 4) hx hb dL_law_350 (by decide +kernel) ?_
  refine lz_iadd hx hb dL_law_351 ?_
  refine lz_sld hx hb hX0 hbl hbA hH.2.2 hiL hL 4 (by decide) hw4 dL_law_352 ?_
  refine lv_aload_n hx hb dL_law_353 rfl (lv_at hl 0 rfl) ?_
  refine lv_iload hx hb dL_law_354 (lv_at hl 5 rfl) ?_
  refine lv_iconst (v := zI 5) hx hb dL_law_356 (by decide +kernel) ?_
  refine lz_iadd hx hb dL_law_357 ?_
  refine lz_sld hx hb hX0 hbl hbA hH.2.2 hiL hL 5 (by decide) hw5 dL_law_358 ?_
  refine lv_aload_n hx hb dL_law_359 rfl (lv_at hl 0 rfl) ?_
  refine lv_iload hx hb dL_law_360 (lv_at hl 5 rfl) ?_
  refine lv_bipush (v := zI 6) hx hb dL_law_362 (by decide +kernel) ?_
  refine lz_iadd hx hb dL_law_364 ?_
  refine lz_sld hx hb hX0 hbl hbA hH.2.2 hiL hL 6 (by decide) hw6 dL_law_365 ?_
  refine lz_tern hx hb hR6 dL_law_366 dL_law_369 dL_law_370 dL_law_373 ?_
  obtain ⟨r1, u2, u3, u4, u5, u6, u7, u8, k9, hf⟩ := zb8_some hf
  refine zcH (As := [.ref (ad 0), .int (zI w1), .int (zI w2), .int (zI w3), .int (zI w4), .int (zI w5), .int (zI (if w6 = 0 then 0 else 1))]) (rest := []) hx hb hml hown hts hl.1 hK hH hA (hXs.kept hH.2.2.2.1) hNc (c_L_sew (zD_inj hH.2.1) hN hNF hst h_sp h_sp_fields h_FF k9) zk_t3_97 zk_t3_98 zk_t1_0 zk_t3_99 hd_L_sew rfl ⟨rfl, rfl, Nat.le_of_ble_eq_true rfl, Nat.le_of_ble_eq_true rfl⟩ ⟨by show _ ≤ 83562; omega, by show _ ≤ 8845420; omega⟩ rfl (Nat.le_of_ble_eq_true rfl) dL_law_374 (fun q11 σ10 Hσ10 lσ10 hp hH => ?_)
  obtain ⟨hr1, h_sp, h_FF, hn⟩ := hp
  subst hr1
  have h_sp_fields := (hn 1 (by decide) (by decide)).trans h_sp_fields
  have h_mo := (hn 19 (by decide) (by decide)).trans h_mo
  have h_mo_density := (hn 26 (by decide) (by decide)).trans h_mo_density
  have h_mo_longest := (hn 27 (by decide) (by decide)).trans h_mo_longest
  have h_mo_shift := (hn 28 (by decide) (by decide)).trans h_mo_shift
  have h_mo_pull := (hn 29 (by decide) (by decide)).trans h_mo_pull
  have h_mo_hasUnderlay := (hn 30 (by decide) (by decide)).trans h_mo_hasUnderlay
  have hbg : ∀ i : Nat, i < 46 → i ≠ 0 → i ≠ 19 → i ≠ 26 → i ≠ 27 → i ≠ 28 → i ≠ 29 → i ≠ 30 → σ10 i = σ0 i := fun i h46 a0 a1 a2 a3 a4 a5 a6 => (hn i h46 a0).trans (hbg i h46 a0 a1 a2 a3 a4 a5 a6)
  have g_c : cells + 2 ≤ 83562 := by omega
  have g_s : slots + 12 ≤ 8845420 := by omega
  refine lv_istore (lv' := [(6, .int (zI r1)), (0, .ref b), (1, .ref (ad 0)), (2, .ref (ad 19)), (3, .ref (ad 44)), (4, .ref (ad 45)), (5, .int (zI ii))]) hx hb dL_law_377 hl (by decide) rfl (fun ls hl => ?_)
  refine lv_aload_n hx hb dL_law_379 rfl (lv_at hl 3 rfl) ?_
  refine lv_aload_n hx hb dL_law_380 rfl (lv_at hl 1 rfl) ?_
  refine lv_iload hx hb dL_law_381 (lv_at hl 6 rfl) ?_
  refine lv_iconst (v := zI 1) hx hb dL_law_383 (by decide +kernel) ?_
  refine lz_iadd hx hb dL_law_384 ?_
  refine lz_sld hx hb hX0 hbl hbA hH.2.2 hiL hL 1 (by decide) hw1 dL_law_385 ?_
  refine lv_aload_n hx hb dL_law_386 rfl (lv_at hl 1 rfl) ?_
  refine lv_iload hx hb dL_law_387 (lv_at hl 6 rfl) ?_
  refine lv_iconst (v := zI 2) hx hb dL_law_389 (by decide +kernel) ?_
  refine lz_iadd hx hb dL_law_390 ?_
  refine lz_sld hx hb hX0 hbl hbA hH.2.2 hiL hL 2 (by decide) hw2 dL_law_391 ?_
  refine lv_aload_n hx hb dL_law_392 rfl (lv_at hl 1 rfl) ?_
  refine lv_iload hx hb dL_law_393 (lv_at hl 6 rfl) ?_
  refine lv_iconst (v := zI 3) hx hb dL_law_395 (by decide +kernel) ?_
  refine lz_iadd hx hb dL_law_396 ?_
  refine lz_sld hx hb hX0 hbl hbA hH.2.2 hiL hL 3 (by decide) hw3 dL_law_397 ?_
  refine lv_aload_n hx hb dL_law_398 rfl (lv_at hl 1 rfl) ?_
  refine lv_iload hx hb dL_law_399 (lv_at hl 6 rfl) ?_
  refine lv_iconst (v := zI 4) hx hb dL_law_401 (by decide +kernel) ?_
  refine lz_iadd hx hb dL_law_402 ?_
  refine lz_sld hx hb hX0 hbl hbA hH.2.2 hiL hL 4 (by decide) hw4 dL_law_403 ?_
  refine lv_aload_n hx hb dL_law_404 rfl (lv_at hl 1 rfl) ?_
  refine lv_iload hx hb dL_law_405 (lv_at hl 6 rfl) ?_
  refine lv_iconst (v := zI 5) hx hb dL_law_407 (by decide +kernel) ?_
  refine lz_iadd hx hb dL_law_408 ?_
  refine lz_sld hx hb hX0 hbl hbA hH.2.2 hiL hL 5 (by decide) hw5 dL_law_409 ?_
  refine lv_aload_n hx hb dL_law_410 rfl (lv_at hl 1 rfl) ?_
  refine lv_iload hx hb dL_law_411 (lv_at hl 6 rfl) ?_
  refine lv_bipush (v := zI 6) hx hb dL_law_413 (by decide +kernel) ?_
  refine lz_iadd hx hb dL_law_415 ?_
  refine lz_sld hx hb hX0 hbl hbA hH.2.2 hiL hL 6 (by decide) hw6 dL_law_416 ?_
  refine lz_tern hx hb hR6 dL_law_417 dL_law_420 dL_law_421 dL_law_424 ?_
  obtain ⟨a12, a13, a14, a15, a16, u17, u18, k19, hf⟩ := zb7_some hf
  refine zcVv (C := RX7) (As := [.int (zI w1), .int (zI w2), .int (zI w3), .int (zI w4), .int (zI w5), .int (zI (if w6 = 0 then 0 else 1))]) (rest := []) hx hb hml hown hts hl.1 hK hH hA (c_X7_sew hI hN  h_mo h_mo_density h_mo_longest h_mo_shift h_mo_pull h_mo_hasUnderlay k19) zk_t5_27 zk_t5_28 zk_t5_29 zk_t1_6 zk_t5_30 hd_X7_sew rfl ⟨rfl, rfl, Nat.le_of_ble_eq_true rfl, Nat.le_of_ble_eq_true rfl⟩ ⟨g_c, g_s⟩ hk_mo h_mo rfl rfl rfl (Nat.le_of_ble_eq_true rfl) dL_law_425 (fun σ20 Hσ20 lσ20 hp hH => ?_)
  obtain ⟨h_mo, h_mo_density, h_mo_longest, h_mo_shift, h_mo_pull, h_mo_hasUnderlay, hn⟩ := hp
  have h_sp := (hn 0 (by decide) (by decide) (by decide) (by decide) (by decide) (by decide)).trans h_sp
  have h_sp_fields := (hn 1 (by decide) (by decide) (by decide) (by decide) (by decide) (by decide)).trans h_sp_fields
  have h_FF := zFF_keep (fun i hi => hn i (by omega) (by omega) (by omega) (by omega) (by omega) (by omega)) h_FF
  have hbg : ∀ i : Nat, i < 46 → i ≠ 0 → i ≠ 19 → i ≠ 26 → i ≠ 27 → i ≠ 28 → i ≠ 29 → i ≠ 30 → σ20 i = σ0 i := fun i h46 a0 a1 a2 a3 a4 a5 a6 => (hn i a1 a2 a3 a4 a5 a6).trans (hbg i h46 a0 a1 a2 a3 a4 a5 a6)
  refine lv_aload_n hx hb dL_law_428 rfl (lv_at hl 3 rfl) ?_
  obtain ⟨r21, k22, hf⟩ := zb1_some hf
  refine zcVi (C := RX7) (As := []) (rest := []) hx hb hml hown hts hl.1 hK hH hA (c_X7_thrown hI hN  h_mo k22) zk_t5_0 zk_t5_1 zk_t5_2 zk_t1_6 zk_t5_3 hd_X7_thrown rfl ⟨rfl, rfl, Nat.le_of_ble_eq_true rfl, Nat.le_of_ble_eq_true rfl⟩ ⟨g_c, g_s⟩ hk_mo h_mo rfl rfl rfl (Nat.le_of_ble_eq_true rfl) dL_law_429 (fun q24 σ23 Hσ23 lσ23 hp hH => ?_)
  obtain ⟨hr1, hs1⟩ := hp; replace hr1 := hr1.symm; subst hr1; rw [hs1] at hH
  refine lv_iload hx hb dL_law_432 (lv_at hl 0 rfl) ?_
  obtain ⟨k25, hf⟩ := zck_some hf
  refine lz_icmp_eq (tgt := 439) hx hb k25 dL_law_434 (by decide) (fun c26 => ?_) (fun c26 => ?_)
  · replace hf := (if_pos c26).symm.trans hf
    refine lv_goto (tgt := 1430) hx hb dL_law_439 (by decide) ?_
    cases hf
    exact kk _ _ _ _ _ (by omega) (by omega) hH h_sp h_mo h_mo_density h_mo_longest h_mo_shift h_mo_pull h_mo_hasUnderlay h_FF hbg _ (lv_sub hl [1, 2, 3, 4, 5, 6] rfl)
  · replace hf := (if_neg c26).symm.trans hf
    refine lv_iconst (v := zI 0) hx hb dL_law_437 (by decide +kernel) ?_
    cases hf
def f_law_scale (sp_fieldCount : Int) (sp_planned : Int) (F_fd_cornerXs : Int → Int → Int) (F_fd_cornerYs : Int → Int → Int) (F_fd_cornerCount : Int → Int) (F_fd_drawn : Int → Int) (mo_fields : Int) (mo_corners : Int → Int) (mo_cornerX : Int → Int) (mo_cornerY : Int → Int) (mo_isKnown : Int) (mo_thrown : Int) (nF : Int) (w1 : Int) (w2 : Int) : Option (Int × (Int → Int → Int) × (Int → Int → Int) × (Int → Int) × (Int → Int) × (Int → Int) × Int × Int) :=
  zb5 (f_L_scale sp_fieldCount sp_planned F_fd_cornerXs F_fd_cornerYs F_fd_cornerCount F_fd_drawn nF w1 w2) fun r1 u2 u3 u4 u5 =>
  zb4 (f_X7_scale mo_fields mo_corners mo_cornerX mo_cornerY mo_isKnown mo_thrown w1 w2) fun a9 a10 u11 u12 =>
  zb1 (f_X7_thrown u12) fun r15 =>
  zck (zR r15 ∧ zR r1) <|
  if r15 = r1 then
    some (u2, u3, u4, u5, a9, a10, u11, u12)
  else
    none
set_option maxHeartbeats 4000000 in
set_option maxRecDepth 100000 in
theorem w_law_scale {p : Program} {l : Launch} {e : Env} {s : State} {m : MethodId} {args : Array Value} {below : List Frame} {meth : Method} {c : Code} {Q : State → Prop} {D : va_G} {cI cZ cF cL cD : ClassId} {b L : Nat} {xs : Nat → Int32} {A : Nat → Prop} (hx : p.tables.exec = Jvm.exec) (hb : c.code = code) (hml : c.maxLocals = 10) (hown : s.vm.findClass RL = some m.cls) (hts : ∀ w ∈ wsL_law, w.before args s = true) (hst : l.stackTraces = false) (hNc : zNc s) (hX0 : va_X b L xs s s.heap) (hbl : b < s.heap.size) (hbA : ¬ A b) (hA : ∀ q, s.heap.size ≤ q → A q) (hK : zK D (zT cI cZ cF cL cD) s) (hXs : zXs A s s.heap) (hL : L ≤ 3584)
    {ad : Nat → Nat} {N : Nat} {nF : Int} (hN : 46 ≤ N) (hNF : N = 46 + 7 * nF.toNat) {σ0 : Nat → va_E} {H : Heap} {locs : List Loc} {cells slots : Nat} (hH : zH D ad N A s.heap σ0 H locs) {sp_fieldCount : Int} {sp_trimBound : Int} {sp_planned : Int} {F_fd_colour : Int → Int} {F_fd_layer : Int → Int} {F_fd_column : Int → Int} {F_fd_cornerXs : Int → Int → Int} {F_fd_cornerYs : Int → Int → Int} {F_fd_crossings : Int → Int → Int} {F_fd_cornerCount : Int → Int} {F_fd_crossingCount : Int → Int} {F_fd_density : Int → Int} {F_fd_length : Int → Int} {F_fd_shift : Int → Int} {F_fd_pull : Int → Int} {F_fd_underlay : Int → Int} {F_fd_drawn : Int → Int} {F_pt_xs : Int → Int → Int} {F_pt_ys : Int → Int → Int} {F_pt_size : Int → Int} {mo_fields : Int} {mo_corners : Int → Int} {mo_cornerX : Int → Int} {mo_cornerY : Int → Int} {mo_bound : Int} {mo_points : Int} {mo_crossings : Int} {mo_isKnown : Int} {mo_commands : Int} {mo_needleX : Int} {mo_needleY : Int} {mo_hasFile : Int} {mo_format : Int} {mo_length : Int} {mo_heads : Int} {mo_late : Int} {mo_ran : Int} {mo_program : Int} {mo_thrown : Int} {mo_rowY : Int} {mo_stitches : Int} {R_sp_planned : Int} {R_F_fd_cornerXs : Int → Int → Int} {R_F_fd_cornerYs : Int → Int → Int} {R_F_fd_drawn : Int → Int} {R_mo_cornerX : Int → Int} {R_mo_cornerY : Int → Int} {R_mo_isKnown : Int} {R_mo_thrown : Int} (h_sp : σ0 0 = oC_sp ad sp_fieldCount sp_trimBound sp_planned) (h_sp_fields : σ0 1 = .inl (cF, 8, .inr (.inr (.inr (.inr (zFA ad nF)))))) (h_mo : σ0 19 = oC_mo ad mo_fields mo_bound mo_points mo_crossings mo_isKnown mo_commands mo_needleX mo_needleY mo_hasFile mo_format mo_length mo_heads mo_late mo_ran mo_program mo_thrown mo_rowY mo_stitches) (h_mo_corners : σ0 23 = .inl (cI, 8, .inl (zA mo_corners))) (h_mo_cornerX : σ0 24 = .inl (cI, 64, .inl (zA mo_cornerX))) (h_mo_cornerY : σ0 25 = .inl (cI, 64, .inl (zA mo_cornerY))) (h_FF : zFF ad cI nF σ0 F_fd_colour F_fd_layer F_fd_column F_fd_cornerXs F_fd_cornerYs F_fd_crossings F_fd_cornerCount F_fd_crossingCount F_fd_density F_fd_length F_fd_shift F_fd_pull F_fd_underlay F_fd_drawn F_pt_xs F_pt_ys F_pt_size) {ii : Int} (hiL : 0 ≤ ii ∧ ii + 7 ≤ L) {w1 : Int} (hw1 : xs (ii.toNat + 1) = zI w1) (hR1 : zR w1) {w2 : Int} (hw2 : xs (ii.toNat + 2) = zI w2) (hR2 : zR w2) (hcs : cells + 9 ≤ 83562 ∧ slots + 4300 ≤ 8845420) {ls : Array Slot} (hl : lv_has ls 10 [(0, .ref b), (1, .ref (ad 0)), (2, .ref (ad 19)), (3, .ref (ad 44)), (4, .ref (ad 45)), (5, .int (zI ii))]) (hf : f_law_scale sp_fieldCount sp_planned F_fd_cornerXs F_fd_cornerYs F_fd_cornerCount F_fd_drawn mo_fields mo_corners mo_cornerX mo_cornerY mo_isKnown mo_thrown nF w1 w2 = some (R_sp_planned, R_F_fd_cornerXs, R_F_fd_cornerYs, R_F_fd_drawn, R_mo_cornerX, R_mo_cornerY, R_mo_isKnown, R_mo_thrown))
    (kk : ∀ (σ : Nat → va_E) (H : Heap) (locs : List Loc) (cells1 slots1 : Nat), cells1 ≤ cells + 9 → slots1 ≤ slots + 4300 → zH D ad N A s.heap σ H locs → ∀ (h_sp : σ 0 = oC_sp ad sp_fieldCount sp_trimBound R_sp_planned) (h_mo : σ 19 = oC_mo ad mo_fields mo_bound mo_points mo_crossings R_mo_isKnown mo_commands mo_needleX mo_needleY mo_hasFile mo_format mo_length mo_heads mo_late mo_ran mo_program R_mo_thrown mo_rowY mo_stitches) (h_mo_cornerX : σ 24 = .inl (cI, 64, .inl (zA R_mo_cornerX))) (h_mo_cornerY : σ 25 = .inl (cI, 64, .inl (zA R_mo_cornerY))) (h_FF : zFF ad cI nF σ F_fd_colour F_fd_layer F_fd_column R_F_fd_cornerXs R_F_fd_cornerYs F_fd_crossings F_fd_cornerCount F_fd_crossingCount F_fd_density F_fd_length F_fd_shift F_fd_pull F_fd_underlay R_F_fd_drawn F_pt_xs F_pt_ys F_pt_size), ∀ (hbg : ∀ i : Nat, i < 46 → i ≠ 0 → i ≠ 19 → i ≠ 24 → i ≠ 25 → σ i = σ0 i) (ls : Array Slot), lv_has ls 10 [(0, .ref b), (1, .ref (ad 0)), (2, .ref (ad 19)), (3, .ref (ad 44)), (4, .ref (ad 45)), (5, .int (zI ii))] → W p l e room_1 s m args below meth c H locs cells1 slots1 Q (F0 m 1430 ls [])) : W p l e room_1 s m args below meth c H locs cells slots Q (F0 m 442 ls []) := by
  have hI := zD_inj hH.2.1
  have g_c : cells ≤ 83562 := by omega
  have g_s : slots ≤ 8845420 := by omega
  have hk_out : 44 < N := by omega
  have hk_outD : 45 < N := by omega
  have hk_sp : 0 < N := by omega
  have hk_sp_fields : 1 < N := by omega
  have hk_mo : 19 < N := by omega
  have hk_mo_corners : 23 < N := by omega
  have hk_mo_cornerX : 24 < N := by omega
  have hk_mo_cornerY : 25 < N := by omega
  have hbg : ∀ i : Nat, i < 46 → i ≠ 0 → i ≠ 19 → i ≠ 24 → i ≠ 25 → σ0 i = σ0 i := fun _ _ _ _ _ _ => rfl
  unfold f_law_scale at hf
  refine lv_aload_n hx hb dL_law_442 rfl (lv_at hl 1 rfl) ?_
  refine lv_aload_n hx hb dL_law_443 rfl (lv_at hl 0 rfl) ?_
  refine lv_iload hx hb dL_law_444 (lv_at hl 5 rfl) ?_
  refine lv_iconst (v := zI 1) hx hb dL_law_446 (by decide +kernel) ?_
  refine lz_iadd hx hb dL_law_447 ?_
  refine lz_sld hx hb hX0 hbl hbA hH.2.2 hiL hL 1 (by decide) hw1 dL_law_448 ?_
  refine lv_aload_n hx hb dL_law_449 rfl (lv_at hl 0 rfl) ?_
  refine lv_iload hx hb dL_law_450 (lv_at hl 5 rfl) ?_
  refine lv_iconst (v := zI 2) hx hb dL_law_452 (by decide +kernel) ?_
  refine lz_iadd hx hb dL_law_453 ?_
  refine lz_sld hx hb hX0 hbl hbA hH.2.2 hiL hL 2 (by decide) hw2 dL_law_454 ?_
  obtain ⟨r1, u2, u3, u4, u5, k6, hf⟩ := zb5_some hf
  refine zcH (As := [.ref (ad 0), .int (zI w1), .int (zI w2)]) (rest := []) hx hb hml hown hts hl.1 hK hH hA (hXs.kept hH.2.2.2.1) hNc (c_L_scale (zD_inj hH.2.1) hN hNF hst h_sp h_sp_fields h_FF k6) zk_t3_112 zk_t3_113 zk_t1_0 zk_t3_114 hd_L_scale rfl ⟨rfl, rfl, Nat.le_of_ble_eq_true rfl, Nat.le_of_ble_eq_true rfl⟩ ⟨by show _ ≤ 83562; omega, by show _ ≤ 8845420; omega⟩ rfl (Nat.le_of_ble_eq_true rfl) dL_law_455 (fun q8 σ7 Hσ7 lσ7 hp hH => ?_)
  obtain ⟨hr1, h_sp, h_FF, hn⟩ := hp
  subst hr1
  have h_sp_fields := (hn 1 (by decide) (by decide)).trans h_sp_fields
  have h_mo := (hn 19 (by decide) (by decide)).trans h_mo
  have h_mo_corners := (hn 23 (by decide) (by decide)).trans h_mo_corners
  have h_mo_cornerX := (hn 24 (by decide) (by decide)).trans h_mo_cornerX
  have h_mo_cornerY := (hn 25 (by decide) (by decide)).trans h_mo_cornerY
  have hbg : ∀ i : Nat, i < 46 → i ≠ 0 → i ≠ 19 → i ≠ 24 → i ≠ 25 → σ7 i = σ0 i := fun i h46 a0 a1 a2 a3 => (hn i h46 a0).trans (hbg i h46 a0 a1 a2 a3)
  have g_c : cells + 2 ≤ 83562 := by omega
  have g_s : slots + 12 ≤ 8845420 := by omega
  refine lv_istore (lv' := [(6, .int (zI r1)), (0, .ref b), (1, .ref (ad 0)), (2, .ref (ad 19)), (3, .ref (ad 44)), (4, .ref (ad 45)), (5, .int (zI ii))]) hx hb dL_law_458 hl (by decide) rfl (fun ls hl => ?_)
  refine lv_aload_n hx hb dL_law_460 rfl (lv_at hl 3 rfl) ?_
  refine lv_aload_n hx hb dL_law_461 rfl (lv_at hl 1 rfl) ?_
  refine lv_iload hx hb dL_law_462 (lv_at hl 6 rfl) ?_
  refine lv_iconst (v := zI 1) hx hb dL_law_464 (by decide +kernel) ?_
  refine lz_iadd hx hb dL_law_465 ?_
  refine lz_sld hx hb hX0 hbl hbA hH.2.2 hiL hL 1 (by decide) hw1 dL_law_466 ?_
  refine lv_aload_n hx hb dL_law_467 rfl (lv_at hl 1 rfl) ?_
  refine lv_iload hx hb dL_law_468 (lv_at hl 6 rfl) ?_
  refine lv_iconst (v := zI 2) hx hb dL_law_470 (by decide +kernel) ?_
  refine lz_iadd hx hb dL_law_471 ?_
  refine lz_sld hx hb hX0 hbl hbA hH.2.2 hiL hL 2 (by decide) hw2 dL_law_472 ?_
  obtain ⟨a9, a10, u11, u12, k13, hf⟩ := zb4_some hf
  refine zcVv (C := RX7) (As := [.int (zI w1), .int (zI w2)]) (rest := []) hx hb hml hown hts hl.1 hK hH hA (c_X7_scale hI hN  h_mo h_mo_corners h_mo_cornerX h_mo_cornerY k13) zk_t5_31 zk_t5_32 zk_t5_33 zk_t1_6 zk_t5_34 hd_X7_scale rfl ⟨rfl, rfl, Nat.le_of_ble_eq_true rfl, Nat.le_of_ble_eq_true rfl⟩ ⟨g_c, g_s⟩ hk_mo h_mo rfl rfl rfl (Nat.le_of_ble_eq_true rfl) dL_law_473 (fun σ14 Hσ14 lσ14 hp hH => ?_)
  obtain ⟨h_mo, h_mo_cornerX, h_mo_cornerY, hn⟩ := hp
  have h_sp := (hn 0 (by decide) (by decide) (by decide)).trans h_sp
  have h_sp_fields := (hn 1 (by decide) (by decide) (by decide)).trans h_sp_fields
  have h_mo_corners := (hn 23 (by decide) (by decide) (by decide)).trans h_mo_corners
  have h_FF := zFF_keep (fun i hi => hn i (by omega) (by omega) (by omega)) h_FF
  have hbg : ∀ i : Nat, i < 46 → i ≠ 0 → i ≠ 19 → i ≠ 24 → i ≠ 25 → σ14 i = σ0 i := fun i h46 a0 a1 a2 a3 => (hn i a1 a2 a3).trans (hbg i h46 a0 a1 a2 a3)
  refine lv_aload_n hx hb dL_law_476 rfl (lv_at hl 3 rfl) ?_
  obtain ⟨r15, k16, hf⟩ := zb1_some hf
  refine zcVi (C := RX7) (As := []) (rest := []) hx hb hml hown hts hl.1 hK hH hA (c_X7_thrown hI hN  h_mo k16) zk_t5_0 zk_t5_1 zk_t5_2 zk_t1_6 zk_t5_3 hd_X7_thrown rfl ⟨rfl, rfl, Nat.le_of_ble_eq_true rfl, Nat.le_of_ble_eq_true rfl⟩ ⟨g_c, g_s⟩ hk_mo h_mo rfl rfl rfl (Nat.le_of_ble_eq_true rfl) dL_law_477 (fun q18 σ17 Hσ17 lσ17 hp hH => ?_)
  obtain ⟨hr1, hs1⟩ := hp; replace hr1 := hr1.symm; subst hr1; rw [hs1] at hH
  refine lv_iload hx hb dL_law_480 (lv_at hl 0 rfl) ?_
  obtain ⟨k19, hf⟩ := zck_some hf
  refine lz_icmp_eq (tgt := 487) hx hb k19 dL_law_482 (by decide) (fun c20 => ?_) (fun c20 => ?_)
  · replace hf := (if_pos c20).symm.trans hf
    refine lv_goto (tgt := 1430) hx hb dL_law_487 (by decide) ?_
    cases hf
    exact kk _ _ _ _ _ (by omega) (by omega) hH h_sp h_mo h_mo_cornerX h_mo_cornerY h_FF hbg _ (lv_sub hl [1, 2, 3, 4, 5, 6] rfl)
  · replace hf := (if_neg c20).symm.trans hf
    refine lv_iconst (v := zI 0) hx hb dL_law_485 (by decide +kernel) ?_
    cases hf
def f_law_bound (sp_trimBound : Int) (sp_planned : Int) (mo_bound : Int) (mo_isKnown : Int) (mo_thrown : Int) (lw_out : Int) (w1 : Int) : Option (Int × Int × Int × Int × Int × Int) :=
  zb4 (f_L_bound sp_trimBound sp_planned w1 lw_out) fun r1 u2 u3 u4 =>
  zb4 (f_X7_bound mo_bound mo_isKnown mo_thrown w1) fun r8 u9 u10 u11 =>
  zb1 (f_X7_thrown u11) fun r15 =>
  zck (zR r15 ∧ zR r1) <|
  if r15 = r1 then
    zck (zR r1) <|
    if r1 = 0 then
      zck (zR u4 ∧ zR r8) <|
      if u4 = r8 then
        some (u2, u3, u9, u10, u11, u4)
      else
        none
    else
      some (u2, u3, u9, u10, u11, u4)
  else
    none
set_option maxHeartbeats 4000000 in
set_option maxRecDepth 100000 in
theorem w_law_bound {p : Program} {l : Launch} {e : Env} {s : State} {m : MethodId} {args : Array Value} {below : List Frame} {meth : Method} {c : Code} {Q : State → Prop} {D : va_G} {cI cZ cF cL cD : ClassId} {b L : Nat} {xs : Nat → Int32} {A : Nat → Prop} (hx : p.tables.exec = Jvm.exec) (hb : c.code = code) (hml : c.maxLocals = 10) (hown : s.vm.findClass RL = some m.cls) (hts : ∀ w ∈ wsL_law, w.before args s = true) (hst : l.stackTraces = false) (hNc : zNc s) (hX0 : va_X b L xs s s.heap) (hbl : b < s.heap.size) (hbA : ¬ A b) (hA : ∀ q, s.heap.size ≤ q → A q) (hK : zK D (zT cI cZ cF cL cD) s) (hXs : zXs A s s.heap) (hL : L ≤ 3584)
    {ad : Nat → Nat} {N : Nat} {nF : Int} (hN : 46 ≤ N) (hNF : N = 46 + 7 * nF.toNat) {σ0 : Nat → va_E} {H : Heap} {locs : List Loc} {cells slots : Nat} (hH : zH D ad N A s.heap σ0 H locs) {sp_fieldCount : Int} {sp_trimBound : Int} {sp_planned : Int} {mo_fields : Int} {mo_bound : Int} {mo_points : Int} {mo_crossings : Int} {mo_isKnown : Int} {mo_commands : Int} {mo_needleX : Int} {mo_needleY : Int} {mo_hasFile : Int} {mo_format : Int} {mo_length : Int} {mo_heads : Int} {mo_late : Int} {mo_ran : Int} {mo_program : Int} {mo_thrown : Int} {mo_rowY : Int} {mo_stitches : Int} {lw_out : Int} {R_sp_trimBound : Int} {R_sp_planned : Int} {R_mo_bound : Int} {R_mo_isKnown : Int} {R_mo_thrown : Int} {R_lw_out : Int} (h_sp : σ0 0 = oC_sp ad sp_fieldCount sp_trimBound sp_planned) (h_mo : σ0 19 = oC_mo ad mo_fields mo_bound mo_points mo_crossings mo_isKnown mo_commands mo_needleX mo_needleY mo_hasFile mo_format mo_length mo_heads mo_late mo_ran mo_program mo_thrown mo_rowY mo_stitches) (h_lw_out : zO cL σ0 lw_out) {ii : Int} (hiL : 0 ≤ ii ∧ ii + 7 ≤ L) {w1 : Int} (hw1 : xs (ii.toNat + 1) = zI w1) (hR1 : zR w1) (hcs : cells + 9 ≤ 83562 ∧ slots + 4300 ≤ 8845420) {ls : Array Slot} (hl : lv_has ls 10 [(0, .ref b), (1, .ref (ad 0)), (2, .ref (ad 19)), (3, .ref (ad 44)), (4, .ref (ad 45)), (5, .int (zI ii))]) (hf : f_law_bound sp_trimBound sp_planned mo_bound mo_isKnown mo_thrown lw_out w1 = some (R_sp_trimBound, R_sp_planned, R_mo_bound, R_mo_isKnown, R_mo_thrown, R_lw_out))
    (kk : ∀ (σ : Nat → va_E) (H : Heap) (locs : List Loc) (cells1 slots1 : Nat), cells1 ≤ cells + 9 → slots1 ≤ slots + 4300 → zH D ad N A s.heap σ H locs → ∀ (h_sp : σ 0 = oC_sp ad sp_fieldCount R_sp_trimBound R_sp_planned) (h_mo : σ 19 = oC_mo ad mo_fields R_mo_bound mo_points mo_crossings R_mo_isKnown mo_commands mo_needleX mo_needleY mo_hasFile mo_format mo_length mo_heads mo_late mo_ran mo_program R_mo_thrown mo_rowY mo_stitches) (h_lw_out : zO cL σ R_lw_out), ∀ (hbg : ∀ i : Nat, i ≠ 0 → i ≠ 19 → i ≠ 44 → σ i = σ0 i) (ls : Array Slot), lv_has ls 10 [(0, .ref b), (1, .ref (ad 0)), (2, .ref (ad 19)), (3, .ref (ad 44)), (4, .ref (ad 45)), (5, .int (zI ii))] → W p l e room_1 s m args below meth c H locs cells1 slots1 Q (F0 m 1430 ls [])) : W p l e room_1 s m args below meth c H locs cells slots Q (F0 m 490 ls []) := by
  have hI := zD_inj hH.2.1
  have g_c : cells ≤ 83562 := by omega
  have g_s : slots ≤ 8845420 := by omega
  have hk_out : 44 < N := by omega
  have hk_outD : 45 < N := by omega
  have hk_sp : 0 < N := by omega
  have hk_mo : 19 < N := by omega
  have hbg : ∀ i : Nat, i ≠ 0 → i ≠ 19 → i ≠ 44 → σ0 i = σ0 i := fun _ _ _ _ => rfl
  unfold f_law_bound at hf
  refine lv_aload_n hx hb dL_law_490 rfl (lv_at hl 1 rfl) ?_
  refine lv_aload_n hx hb dL_law_491 rfl (lv_at hl 0 rfl) ?_
  refine lv_iload hx hb dL_law_492 (lv_at hl 5 rfl) ?_
  refine lv_iconst (v := zI 1) hx hb dL_law_494 (by decide +kernel) ?_
  refine lz_iadd hx hb dL_law_495 ?_
  refine lz_sld hx hb hX0 hbl hbA hH.2.2 hiL hL 1 (by decide) hw1 dL_law_496 ?_
  refine lv_aload_n hx hb dL_law_497 rfl (lv_at hl 3 rfl) ?_
  obtain ⟨r1, u2, u3, u4, k5, hf⟩ := zb4_some hf
  refine zcH (As := [.ref (ad 0), .int (zI w1), .ref (ad 44)]) (rest := []) hx hb hml hown hts hl.1 hK hH hA (hXs.kept hH.2.2.2.1) hNc (c_L_bound (zD_inj hH.2.1) hN hst h_sp h_lw_out k5) zk_t3_129 zk_t3_130 zk_t1_0 zk_t3_131 hd_L_bound rfl ⟨rfl, rfl, Nat.le_of_ble_eq_true rfl, Nat.le_of_ble_eq_true rfl⟩ ⟨by show _ ≤ 83562; omega, by show _ ≤ 8845420; omega⟩ rfl (Nat.le_of_ble_eq_true rfl) dL_law_498 (fun q7 σ6 Hσ6 lσ6 hp hH => ?_)
  obtain ⟨hr1, h_sp, h_lw_out, hn⟩ := hp
  subst hr1
  have h_mo := (hn 19 (by decide) (by decide)).trans h_mo
  have hbg : ∀ i : Nat, i ≠ 0 → i ≠ 19 → i ≠ 44 → σ6 i = σ0 i := fun i a0 a1 a2 => (hn i a0 a2).trans (hbg i a0 a1 a2)
  have g_c : cells + 1 ≤ 83562 := by omega
  have g_s : slots + 6 ≤ 8845420 := by omega
  refine lv_istore (lv' := [(6, .int (zI r1)), (0, .ref b), (1, .ref (ad 0)), (2, .ref (ad 19)), (3, .ref (ad 44)), (4, .ref (ad 45)), (5, .int (zI ii))]) hx hb dL_law_501 hl (by decide) rfl (fun ls hl => ?_)
  refine lv_aload_n hx hb dL_law_503 rfl (lv_at hl 3 rfl) ?_
  refine lv_aload_n hx hb dL_law_504 rfl (lv_at hl 1 rfl) ?_
  refine lv_iload hx hb dL_law_505 (lv_at hl 6 rfl) ?_
  refine lv_iconst (v := zI 1) hx hb dL_law_507 (by decide +kernel) ?_
  refine lz_iadd hx hb dL_law_508 ?_
  refine lz_sld hx hb hX0 hbl hbA hH.2.2 hiL hL 1 (by decide) hw1 dL_law_509 ?_
  obtain ⟨r8, u9, u10, u11, k12, hf⟩ := zb4_some hf
  refine zcVi (C := RX7) (As := [.int (zI w1)]) (rest := []) hx hb hml hown hts hl.1 hK hH hA (c_X7_bound hI hN  h_mo k12) zk_t5_35 zk_t5_36 zk_t5_37 zk_t1_6 zk_t5_38 hd_X7_bound rfl ⟨rfl, rfl, Nat.le_of_ble_eq_true rfl, Nat.le_of_ble_eq_true rfl⟩ ⟨g_c, g_s⟩ hk_mo h_mo rfl rfl rfl (Nat.le_of_ble_eq_true rfl) dL_law_510 (fun q14 σ13 Hσ13 lσ13 hp hH => ?_)
  obtain ⟨hr1, h_mo, hn⟩ := hp
  replace hr1 := hr1.symm; subst hr1
  have h_sp := (hn 0 (by decide)).trans h_sp
  have hbg : ∀ i : Nat, i ≠ 0 → i ≠ 19 → i ≠ 44 → σ13 i = σ0 i := fun i a0 a1 a2 => (hn i a1).trans (hbg i a0 a1 a2)
  have h_lw_out := zO_keep h_lw_out (hn 44 (by decide))
  refine lv_istore (lv' := [(7, .int (zI r8)), (6, .int (zI r1)), (0, .ref b), (1, .ref (ad 0)), (2, .ref (ad 19)), (3, .ref (ad 44)), (4, .ref (ad 45)), (5, .int (zI ii))]) hx hb dL_law_513 hl (by decide) rfl (fun ls hl => ?_)
  refine lv_aload_n hx hb dL_law_515 rfl (lv_at hl 4 rfl) ?_
  obtain ⟨r15, k16, hf⟩ := zb1_some hf
  refine zcVi (C := RX7) (As := []) (rest := []) hx hb hml hown hts hl.1 hK hH hA (c_X7_thrown hI hN  h_mo k16) zk_t5_0 zk_t5_1 zk_t5_2 zk_t1_6 zk_t5_3 hd_X7_thrown rfl ⟨rfl, rfl, Nat.le_of_ble_eq_true rfl, Nat.le_of_ble_eq_true rfl⟩ ⟨g_c, g_s⟩ hk_mo h_mo rfl rfl rfl (Nat.le_of_ble_eq_true rfl) dL_law_516 (fun q18 σ17 Hσ17 lσ17 hp hH => ?_)
  obtain ⟨hr1, hs1⟩ := hp; replace hr1 := hr1.symm; subst hr1; rw [hs1] at hH
  refine lv_iload hx hb dL_law_519 (lv_at hl 1 rfl) ?_
  obtain ⟨k19, hf⟩ := zck_some hf
  refine lz_icmp_eq (tgt := 526) hx hb k19 dL_law_521 (by decide) (fun c20 => ?_) (fun c20 => ?_)
  · replace hf := (if_pos c20).symm.trans hf
    refine lv_iload hx hb dL_law_526 (lv_at hl 1 rfl) ?_
    obtain ⟨k21, hf⟩ := zck_some hf
    refine lz_if_ne (tgt := 543) hx hb k21 dL_law_528 (by decide) (fun c22 => ?_) (fun c22 => ?_)
    · replace hf := (if_neg c22).symm.trans hf
      refine lv_goto (tgt := 1430) hx hb dL_law_543 (by decide) ?_
      cases hf
      exact kk _ _ _ _ _ (by omega) (by omega) hH h_sp h_mo h_lw_out hbg _ (lv_sub hl [2, 3, 4, 5, 6, 7] rfl)
    · replace hf := (if_pos c22).symm.trans hf
      refine lv_aload_n hx hb dL_law_531 rfl (lv_at hl 5 rfl) ?_
      refine lv_iconst (v := zI 0) hx hb dL_law_532 (by decide +kernel) ?_
      refine zlald hx hb hK hH hk_out h_lw_out rfl dL_law_533 ?_
      refine lv_iload hx hb dL_law_534 (lv_at hl 0 rfl) ?_
      refine lv_i2l hx hb dL_law_536 rfl ?_
      obtain ⟨k23, hf⟩ := zck_some hf
      refine lz_lcmpeq (tgt := 543) hx hb k23 dL_law_537 dL_law_538 (by decide) (fun c24 => ?_) (fun c24 => ?_)
      · replace hf := (if_pos c24).symm.trans hf
        refine lv_goto (tgt := 1430) hx hb dL_law_543 (by decide) ?_
        cases hf
        exact kk _ _ _ _ _ (by omega) (by omega) hH h_sp h_mo h_lw_out hbg _ (lv_sub hl [2, 3, 4, 5, 6, 7] rfl)
      · replace hf := (if_neg c24).symm.trans hf
        refine lv_iconst (v := zI 0) hx hb dL_law_541 (by decide +kernel) ?_
        cases hf
  · replace hf := (if_neg c20).symm.trans hf
    refine lv_iconst (v := zI 0) hx hb dL_law_524 (by decide +kernel) ?_
    cases hf
def f_law_commands (sp_waiting : Int → Int) (sp_trimBound : Int) (sp_planned : Int) (F_fd_colour : Int → Int) (F_fd_layer : Int → Int) (F_fd_column : Int → Int) (F_fd_cornerXs : Int → Int → Int) (F_fd_cornerYs : Int → Int → Int) (F_fd_crossings : Int → Int → Int) (F_fd_cornerCount : Int → Int) (F_fd_crossingCount : Int → Int) (F_fd_density : Int → Int) (F_fd_length : Int → Int) (F_fd_shift : Int → Int) (F_fd_pull : Int → Int) (F_fd_underlay : Int → Int) (F_fd_drawn : Int → Int) (F_pt_xs : Int → Int → Int) (F_pt_ys : Int → Int → Int) (F_pt_size : Int → Int) (pl_kinds : Int → Int) (pl_differencesX : Int → Int) (pl_differencesY : Int → Int) (pl_owners : Int → Int) (pl_kindCounts : Int → Int) (pl_threads : Int → Int) (pl_size : Int) (pl_seconds : UInt32) (pl_needleX : Int) (pl_needleY : Int) (pl_colour : Int) (mo_fields : Int) (mo_colour : Int → Int) (mo_layer : Int → Int) (mo_isColumn : Int → Int) (mo_corners : Int → Int) (mo_cornerX : Int → Int) (mo_cornerY : Int → Int) (mo_density : Int → Int) (mo_longest : Int → Int) (mo_shift : Int → Int) (mo_pull : Int → Int) (mo_hasUnderlay : Int → Int) (mo_bound : Int) (mo_pointX : Int → Int) (mo_pointY : Int → Int) (mo_points : Int) (mo_crossing : Int → Int) (mo_crossings : Int) (mo_isKnown : Int) (mo_commands : Int) (mo_kind : Int → Int) (mo_byX : Int → Int) (mo_byY : Int → Int) (mo_fieldOf : Int → Int) (mo_needleX : Int) (mo_needleY : Int) (mo_isSewn : Int → Int) (mo_thrown : Int) (mo_rowY : Int) (nF : Int) : Option ((Int → Int) × Int × (Int → Int → Int) × (Int → Int) × (Int → Int) × (Int → Int → Int) × (Int → Int → Int) × (Int → Int) × (Int → Int) × (Int → Int) × (Int → Int) × (Int → Int) × (Int → Int) × (Int → Int) × Int × UInt32 × Int × Int × Int × (Int → Int) × (Int → Int) × Int × (Int → Int) × Int × Int × Int × (Int → Int) × (Int → Int) × (Int → Int) × (Int → Int) × Int × Int × (Int → Int) × Int × Int) :=
  zb20 (f_X6_commands sp_waiting sp_trimBound sp_planned F_fd_colour F_fd_layer F_fd_column F_fd_cornerXs F_fd_cornerYs F_fd_crossings F_fd_cornerCount F_fd_crossingCount F_fd_density F_fd_length F_fd_shift F_fd_pull F_fd_underlay F_fd_drawn F_pt_xs F_pt_ys F_pt_size pl_kinds pl_differencesX pl_differencesY pl_owners pl_kindCounts pl_threads pl_size pl_seconds pl_needleX pl_needleY pl_colour nF) fun r1 a2 u3 u4 u5 u6 u7 u8 u9 a10 a11 a12 a13 a14 a15 u16 u17 u18 u19 u20 =>
  zb17 (f_X7_commands mo_fields mo_colour mo_layer mo_isColumn mo_corners mo_cornerX mo_cornerY mo_density mo_longest mo_shift mo_pull mo_hasUnderlay mo_bound mo_pointX mo_pointY mo_points mo_crossing mo_crossings mo_isKnown mo_commands mo_kind mo_byX mo_byY mo_fieldOf mo_needleX mo_needleY mo_isSewn mo_thrown mo_rowY) fun r24 a25 a26 u27 a28 u29 u30 u31 a32 a33 a34 a35 u36 u37 a38 u39 u40 =>
  zck (zR r1 ∧ zR r24) <|
  if r1 = r24 then
    some (a2, u3, u4, u5, u6, u7, u8, u9, a10, a11, a12, a13, a14, a15, u16, u17, u18, u19, u20, a25, a26, u27, a28, u29, u30, u31, a32, a33, a34, a35, u36, u37, a38, u39, u40)
  else
    none
set_option maxHeartbeats 4000000 in
set_option maxRecDepth 100000 in
theorem w_law_commands {p : Program} {l : Launch} {e : Env} {s : State} {m : MethodId} {args : Array Value} {below : List Frame} {meth : Method} {c : Code} {Q : State → Prop} {D : va_G} {cI cZ cF cL cD : ClassId} {b L : Nat} {xs : Nat → Int32} {A : Nat → Prop} (hx : p.tables.exec = Jvm.exec) (hb : c.code = code) (hml : c.maxLocals = 10) (hown : s.vm.findClass RL = some m.cls) (hts : ∀ w ∈ wsL_law, w.before args s = true) (hst : l.stackTraces = false) (hNc : zNc s) (hX0 : va_X b L xs s s.heap) (hbl : b < s.heap.size) (hbA : ¬ A b) (hA : ∀ q, s.heap.size ≤ q → A q) (hK : zK D (zT cI cZ cF cL cD) s) (hXs : zXs A s s.heap) (hL : L ≤ 3584)
    {ad : Nat → Nat} {N : Nat} {nF : Int} (hN : 46 ≤ N) (hNF : N = 46 + 7 * nF.toNat) {σ0 : Nat → va_E} {H : Heap} {locs : List Loc} {cells slots : Nat} (hH : zH D ad N A s.heap σ0 H locs) {sp_waiting : Int → Int} {sp_fieldCount : Int} {sp_trimBound : Int} {sp_planned : Int} {F_fd_colour : Int → Int} {F_fd_layer : Int → Int} {F_fd_column : Int → Int} {F_fd_cornerXs : Int → Int → Int} {F_fd_cornerYs : Int → Int → Int} {F_fd_crossings : Int → Int → Int} {F_fd_cornerCount : Int → Int} {F_fd_crossingCount : Int → Int} {F_fd_density : Int → Int} {F_fd_length : Int → Int} {F_fd_shift : Int → Int} {F_fd_pull : Int → Int} {F_fd_underlay : Int → Int} {F_fd_drawn : Int → Int} {F_pt_xs : Int → Int → Int} {F_pt_ys : Int → Int → Int} {F_pt_size : Int → Int} {pl_kinds : Int → Int} {pl_differencesX : Int → Int} {pl_differencesY : Int → Int} {pl_owners : Int → Int} {pl_kindCounts : Int → Int} {pl_threads : Int → Int} {pl_size : Int} {pl_seconds : UInt32} {pl_needleX : Int} {pl_needleY : Int} {pl_colour : Int} {mo_fields : Int} {mo_colour : Int → Int} {mo_layer : Int → Int} {mo_isColumn : Int → Int} {mo_corners : Int → Int} {mo_cornerX : Int → Int} {mo_cornerY : Int → Int} {mo_density : Int → Int} {mo_longest : Int → Int} {mo_shift : Int → Int} {mo_pull : Int → Int} {mo_hasUnderlay : Int → Int} {mo_bound : Int} {mo_pointX : Int → Int} {mo_pointY : Int → Int} {mo_points : Int} {mo_crossing : Int → Int} {mo_crossings : Int} {mo_isKnown : Int} {mo_commands : Int} {mo_kind : Int → Int} {mo_byX : Int → Int} {mo_byY : Int → Int} {mo_fieldOf : Int → Int} {mo_needleX : Int} {mo_needleY : Int} {mo_isSewn : Int → Int} {mo_hasFile : Int} {mo_format : Int} {mo_length : Int} {mo_heads : Int} {mo_late : Int} {mo_ran : Int} {mo_program : Int} {mo_thrown : Int} {mo_rowY : Int} {mo_stitches : Int} {R_sp_waiting : Int → Int} {R_sp_planned : Int} {R_F_fd_crossings : Int → Int → Int} {R_F_fd_crossingCount : Int → Int} {R_F_fd_drawn : Int → Int} {R_F_pt_xs : Int → Int → Int} {R_F_pt_ys : Int → Int → Int} {R_F_pt_size : Int → Int} {R_pl_kinds : Int → Int} {R_pl_differencesX : Int → Int} {R_pl_differencesY : Int → Int} {R_pl_owners : Int → Int} {R_pl_kindCounts : Int → Int} {R_pl_threads : Int → Int} {R_pl_size : Int} {R_pl_seconds : UInt32} {R_pl_needleX : Int} {R_pl_needleY : Int} {R_pl_colour : Int} {R_mo_pointX : Int → Int} {R_mo_pointY : Int → Int} {R_mo_points : Int} {R_mo_crossing : Int → Int} {R_mo_crossings : Int} {R_mo_isKnown : Int} {R_mo_commands : Int} {R_mo_kind : Int → Int} {R_mo_byX : Int → Int} {R_mo_byY : Int → Int} {R_mo_fieldOf : Int → Int} {R_mo_needleX : Int} {R_mo_needleY : Int} {R_mo_isSewn : Int → Int} {R_mo_thrown : Int} {R_mo_rowY : Int} (h_sp : σ0 0 = oC_sp ad sp_fieldCount sp_trimBound sp_planned) (h_sp_fields : σ0 1 = .inl (cF, 8, .inr (.inr (.inr (.inr (zFA ad nF)))))) (h_sp_waiting : σ0 2 = .inl (cZ, 8, .inl (zA sp_waiting))) (h_pl : σ0 3 = oC_pl ad pl_size pl_seconds pl_needleX pl_needleY pl_colour) (h_pl_kinds : σ0 4 = .inl (cI, 16641, .inl (zA pl_kinds))) (h_pl_differencesX : σ0 5 = .inl (cI, 16641, .inl (zA pl_differencesX))) (h_pl_differencesY : σ0 6 = .inl (cI, 16641, .inl (zA pl_differencesY))) (h_pl_owners : σ0 7 = .inl (cI, 16641, .inl (zA pl_owners))) (h_pl_kindCounts : σ0 8 = .inl (cI, 5, .inl (zA pl_kindCounts))) (h_pl_threads : σ0 9 = .inl (cI, 6, .inl (zA pl_threads))) (h_mo : σ0 19 = oC_mo ad mo_fields mo_bound mo_points mo_crossings mo_isKnown mo_commands mo_needleX mo_needleY mo_hasFile mo_format mo_length mo_heads mo_late mo_ran mo_program mo_thrown mo_rowY mo_stitches) (h_mo_colour : σ0 20 = .inl (cI, 8, .inl (zA mo_colour))) (h_mo_layer : σ0 21 = .inl (cI, 8, .inl (zA mo_layer))) (h_mo_isColumn : σ0 22 = .inl (cZ, 8, .inl (zA mo_isColumn))) (h_mo_corners : σ0 23 = .inl (cI, 8, .inl (zA mo_corners))) (h_mo_cornerX : σ0 24 = .inl (cI, 64, .inl (zA mo_cornerX))) (h_mo_cornerY : σ0 25 = .inl (cI, 64, .inl (zA mo_cornerY))) (h_mo_density : σ0 26 = .inl (cI, 8, .inl (zA mo_density))) (h_mo_longest : σ0 27 = .inl (cI, 8, .inl (zA mo_longest))) (h_mo_shift : σ0 28 = .inl (cI, 8, .inl (zA mo_shift))) (h_mo_pull : σ0 29 = .inl (cI, 8, .inl (zA mo_pull))) (h_mo_hasUnderlay : σ0 30 = .inl (cZ, 8, .inl (zA mo_hasUnderlay))) (h_mo_pointX : σ0 31 = .inl (cI, 4096, .inl (zA mo_pointX))) (h_mo_pointY : σ0 32 = .inl (cI, 4096, .inl (zA mo_pointY))) (h_mo_crossing : σ0 33 = .inl (cI, 8, .inl (zA mo_crossing))) (h_mo_kind : σ0 34 = .inl (cI, 20000, .inl (zA mo_kind))) (h_mo_byX : σ0 35 = .inl (cI, 20000, .inl (zA mo_byX))) (h_mo_byY : σ0 36 = .inl (cI, 20000, .inl (zA mo_byY))) (h_mo_fieldOf : σ0 37 = .inl (cI, 20000, .inl (zA mo_fieldOf))) (h_mo_isSewn : σ0 38 = .inl (cZ, 8, .inl (zA mo_isSewn))) (h_FF : zFF ad cI nF σ0 F_fd_colour F_fd_layer F_fd_column F_fd_cornerXs F_fd_cornerYs F_fd_crossings F_fd_cornerCount F_fd_crossingCount F_fd_density F_fd_length F_fd_shift F_fd_pull F_fd_underlay F_fd_drawn F_pt_xs F_pt_ys F_pt_size) {ii : Int} (hiL : 0 ≤ ii ∧ ii + 7 ≤ L) (hcs : cells + 9 ≤ 83562 ∧ slots + 4300 ≤ 8845420) {ls : Array Slot} (hl : lv_has ls 10 [(0, .ref b), (1, .ref (ad 0)), (2, .ref (ad 19)), (3, .ref (ad 44)), (4, .ref (ad 45)), (5, .int (zI ii))]) (hf : f_law_commands sp_waiting sp_trimBound sp_planned F_fd_colour F_fd_layer F_fd_column F_fd_cornerXs F_fd_cornerYs F_fd_crossings F_fd_cornerCount F_fd_crossingCount F_fd_density F_fd_length F_fd_shift F_fd_pull F_fd_underlay F_fd_drawn F_pt_xs F_pt_ys F_pt_size pl_kinds pl_differencesX pl_differencesY pl_owners pl_kindCounts pl_threads pl_size pl_seconds pl_needleX pl_needleY pl_colour mo_fields mo_colour mo_layer mo_isColumn mo_corners mo_cornerX mo_cornerY mo_density mo_longest mo_shift mo_pull mo_hasUnderlay mo_bound mo_pointX mo_pointY mo_points mo_crossing mo_crossings mo_isKnown mo_commands mo_kind mo_byX mo_byY mo_fieldOf mo_needleX mo_needleY mo_isSewn mo_thrown mo_rowY nF = some (R_sp_waiting, R_sp_planned, R_F_fd_crossings, R_F_fd_crossingCount, R_F_fd_drawn, R_F_pt_xs, R_F_pt_ys, R_F_pt_size, R_pl_kinds, R_pl_differencesX, R_pl_differencesY, R_pl_owners, R_pl_kindCounts, R_pl_threads, R_pl_size, R_pl_seconds, R_pl_needleX, R_pl_needleY, R_pl_colour, R_mo_pointX, R_mo_pointY, R_mo_points, R_mo_crossing, R_mo_crossings, R_mo_isKnown, R_mo_commands, R_mo_kind, R_mo_byX, R_mo_byY, R_mo_fieldOf, R_mo_needleX, R_mo_needleY, R_mo_isSewn, R_mo_thrown, R_mo_rowY))
    (kk : ∀ (σ : Nat → va_E) (H : Heap) (locs : List Loc) (cells1 slots1 : Nat), cells1 ≤ cells + 9 → slots1 ≤ slots + 4300 → zH D ad N A s.heap σ H locs → ∀ (h_sp : σ 0 = oC_sp ad sp_fieldCount sp_trimBound R_sp_planned) (h_sp_waiting : σ 2 = .inl (cZ, 8, .inl (zA R_sp_waiting))) (h_pl : σ 3 = oC_pl ad R_pl_size R_pl_seconds R_pl_needleX R_pl_needleY R_pl_colour) (h_pl_kinds : σ 4 = .inl (cI, 16641, .inl (zA R_pl_kinds))) (h_pl_differencesX : σ 5 = .inl (cI, 16641, .inl (zA R_pl_differencesX))) (h_pl_differencesY : σ 6 = .inl (cI, 16641, .inl (zA R_pl_differencesY))) (h_pl_owners : σ 7 = .inl (cI, 16641, .inl (zA R_pl_owners))) (h_pl_kindCounts : σ 8 = .inl (cI, 5, .inl (zA R_pl_kindCounts))) (h_pl_threads : σ 9 = .inl (cI, 6, .inl (zA R_pl_threads))) (h_mo : σ 19 = oC_mo ad mo_fields mo_bound R_mo_points R_mo_crossings R_mo_isKnown R_mo_commands R_mo_needleX R_mo_needleY mo_hasFile mo_format mo_length mo_heads mo_late mo_ran mo_program R_mo_thrown R_mo_rowY mo_stitches) (h_mo_pointX : σ 31 = .inl (cI, 4096, .inl (zA R_mo_pointX))) (h_mo_pointY : σ 32 = .inl (cI, 4096, .inl (zA R_mo_pointY))) (h_mo_crossing : σ 33 = .inl (cI, 8, .inl (zA R_mo_crossing))) (h_mo_kind : σ 34 = .inl (cI, 20000, .inl (zA R_mo_kind))) (h_mo_byX : σ 35 = .inl (cI, 20000, .inl (zA R_mo_byX))) (h_mo_byY : σ 36 = .inl (cI, 20000, .inl (zA R_mo_byY))) (h_mo_fieldOf : σ 37 = .inl (cI, 20000, .inl (zA R_mo_fieldOf))) (h_mo_isSewn : σ 38 = .inl (cZ, 8, .inl (zA R_mo_isSewn))) (h_FF : zFF ad cI nF σ F_fd_colour F_fd_layer F_fd_column F_fd_cornerXs F_fd_cornerYs R_F_fd_crossings F_fd_cornerCount R_F_fd_crossingCount F_fd_density F_fd_length F_fd_shift F_fd_pull F_fd_underlay R_F_fd_drawn R_F_pt_xs R_F_pt_ys R_F_pt_size), ∀ (hbg : ∀ i : Nat, i < 46 → i ≠ 0 → i ≠ 2 → i ≠ 3 → i ≠ 4 → i ≠ 5 → i ≠ 6 → i ≠ 7 → i ≠ 8 → i ≠ 9 → i ≠ 19 → i ≠ 31 → i ≠ 32 → i ≠ 33 → i ≠ 34 → i ≠ 35 → i ≠ 36 → i ≠ 37 → i ≠ 38 → σ i = σ0 i) (ls : Array Slot), lv_has ls 10 [(0, .ref b), (1, .ref (ad 0)), (2, .ref (ad 19)), (3, .ref (ad 44)), (4, .ref (ad 45)), (5, .int (zI ii))] → W p l e room_1 s m args below meth c H locs cells1 slots1 Q (F0 m 1430 ls [])) : W p l e room_1 s m args below meth c H locs cells slots Q (F0 m 546 ls []) := by
  have hI := zD_inj hH.2.1
  have g_c : cells ≤ 83562 := by omega
  have g_s : slots ≤ 8845420 := by omega
  have hk_out : 44 < N := by omega
  have hk_outD : 45 < N := by omega
  have hk_sp : 0 < N := by omega
  have hk_sp_fields : 1 < N := by omega
  have hk_sp_waiting : 2 < N := by omega
  have hk_pl : 3 < N := by omega
  have hk_pl_kinds : 4 < N := by omega
  have hk_pl_differencesX : 5 < N := by omega
  have hk_pl_differencesY : 6 < N := by omega
  have hk_pl_owners : 7 < N := by omega
  have hk_pl_kindCounts : 8 < N := by omega
  have hk_pl_threads : 9 < N := by omega
  have hk_mo : 19 < N := by omega
  have hk_mo_colour : 20 < N := by omega
  have hk_mo_layer : 21 < N := by omega
  have hk_mo_isColumn : 22 < N := by omega
  have hk_mo_corners : 23 < N := by omega
  have hk_mo_cornerX : 24 < N := by omega
  have hk_mo_cornerY : 25 < N := by omega
  have hk_mo_density : 26 < N := by omega
  have hk_mo_longest : 27 < N := by omega
  have hk_mo_shift : 28 < N := by omega
  have hk_mo_pull : 29 < N := by omega
  have hk_mo_hasUnderlay : 30 < N := by omega
  have hk_mo_pointX : 31 < N := by omega
  have hk_mo_pointY : 32 < N := by omega
  have hk_mo_crossing : 33 < N := by omega
  have hk_mo_kind : 34 < N := by omega
  have hk_mo_byX : 35 < N := by omega
  have hk_mo_byY : 36 < N := by omega
  have hk_mo_fieldOf : 37 < N := by omega
  have hk_mo_isSewn : 38 < N := by omega
  have hbg : ∀ i : Nat, i < 46 → i ≠ 0 → i ≠ 2 → i ≠ 3 → i ≠ 4 → i ≠ 5 → i ≠ 6 → i ≠ 7 → i ≠ 8 → i ≠ 9 → i ≠ 19 → i ≠ 31 → i ≠ 32 → i ≠ 33 → i ≠ 34 → i ≠ 35 → i ≠ 36 → i ≠ 37 → i ≠ 38 → σ0 i = σ0 i := fun _ _ _ _ _ _ _ _ _ _ _ _ _ _ _ _ _ _ _ _ => rfl
  unfold f_law_commands at hf
  refine lv_aload_n hx hb dL_law_546 rfl (lv_at hl 1 rfl) ?_
  obtain ⟨r1, a2, u3, u4, u5, u6, u7, u8, u9, a10, a11, a12, a13, a14, a15, u16, u17, u18, u19, u20, k21, hf⟩ := zb20_some hf
  refine zcVi (C := RX6) (As := []) (rest := []) hx hb hml hown hts hl.1 hK hH hA (c_X6_commands hI hN hNF  h_sp h_sp_fields h_sp_waiting h_pl h_pl_kinds h_pl_differencesX h_pl_differencesY h_pl_owners h_pl_kindCounts h_pl_threads h_FF k21) zk_t1_178 zk_t1_179 zk_t1_180 zk_t1_1 zk_t1_181 hd_X6_commands rfl ⟨rfl, rfl, Nat.le_of_ble_eq_true rfl, Nat.le_of_ble_eq_true rfl⟩ ⟨g_c, g_s⟩ hk_sp h_sp rfl rfl rfl (Nat.le_of_ble_eq_true rfl) dL_law_547 (fun q23 σ22 Hσ22 lσ22 hp hH => ?_)
  obtain ⟨hr1, h_sp, h_sp_waiting, h_pl, h_pl_kinds, h_pl_differencesX, h_pl_differencesY, h_pl_owners, h_pl_kindCounts, h_pl_threads, h_FF, hn⟩ := hp
  replace hr1 := hr1.symm; subst hr1
  have h_sp_fields := (hn 1 (by decide) (by decide) (by decide) (by decide) (by decide) (by decide) (by decide) (by decide) (by decide) (by decide)).trans h_sp_fields
  have h_mo := (hn 19 (by decide) (by decide) (by decide) (by decide) (by decide) (by decide) (by decide) (by decide) (by decide) (by decide)).trans h_mo
  have h_mo_colour := (hn 20 (by decide) (by decide) (by decide) (by decide) (by decide) (by decide) (by decide) (by decide) (by decide) (by decide)).trans h_mo_colour
  have h_mo_layer := (hn 21 (by decide) (by decide) (by decide) (by decide) (by decide) (by decide) (by decide) (by decide) (by decide) (by decide)).trans h_mo_layer
  have h_mo_isColumn := (hn 22 (by decide) (by decide) (by decide) (by decide) (by decide) (by decide) (by decide) (by decide) (by decide) (by decide)).trans h_mo_isColumn
  have h_mo_corners := (hn 23 (by decide) (by decide) (by decide) (by decide) (by decide) (by decide) (by decide) (by decide) (by decide) (by decide)).trans h_mo_corners
  have h_mo_cornerX := (hn 24 (by decide) (by decide) (by decide) (by decide) (by decide) (by decide) (by decide) (by decide) (by decide) (by decide)).trans h_mo_cornerX
  have h_mo_cornerY := (hn 25 (by decide) (by decide) (by decide) (by decide) (by decide) (by decide) (by decide) (by decide) (by decide) (by decide)).trans h_mo_cornerY
  have h_mo_density := (hn 26 (by decide) (by decide) (by decide) (by decide) (by decide) (by decide) (by decide) (by decide) (by decide) (by decide)).trans h_mo_density
  have h_mo_longest := (hn 27 (by decide) (by decide) (by decide) (by decide) (by decide) (by decide) (by decide) (by decide) (by decide) (by decide)).trans h_mo_longest
  have h_mo_shift := (hn 28 (by decide) (by decide) (by decide) (by decide) (by decide) (by decide) (by decide) (by decide) (by decide) (by decide)).trans h_mo_shift
  have h_mo_pull := (hn 29 (by decide) (by decide) (by decide) (by decide) (by decide) (by decide) (by decide) (by decide) (by decide) (by decide)).trans h_mo_pull
  have h_mo_hasUnderlay := (hn 30 (by decide) (by decide) (by decide) (by decide) (by decide) (by decide) (by decide) (by decide) (by decide) (by decide)).trans h_mo_hasUnderlay
  have h_mo_pointX := (hn 31 (by decide) (by decide) (by decide) (by decide) (by decide) (by decide) (by decide) (by decide) (by decide) (by decide)).trans h_mo_pointX
  have h_mo_pointY := (hn 32 (by decide) (by decide) (by decide) (by decide) (by decide) (by decide) (by decide) (by decide) (by decide) (by decide)).trans h_mo_pointY
  have h_mo_crossing := (hn 33 (by decide) (by decide) (by decide) (by decide) (by decide) (by decide) (by decide) (by decide) (by decide) (by decide)).trans h_mo_crossing
  have h_mo_kind := (hn 34 (by decide) (by decide) (by decide) (by decide) (by decide) (by decide) (by decide) (by decide) (by decide) (by decide)).trans h_mo_kind
  have h_mo_byX := (hn 35 (by decide) (by decide) (by decide) (by decide) (by decide) (by decide) (by decide) (by decide) (by decide) (by decide)).trans h_mo_byX
  have h_mo_byY := (hn 36 (by decide) (by decide) (by decide) (by decide) (by decide) (by decide) (by decide) (by decide) (by decide) (by decide)).trans h_mo_byY
  have h_mo_fieldOf := (hn 37 (by decide) (by decide) (by decide) (by decide) (by decide) (by decide) (by decide) (by decide) (by decide) (by decide)).trans h_mo_fieldOf
  have h_mo_isSewn := (hn 38 (by decide) (by decide) (by decide) (by decide) (by decide) (by decide) (by decide) (by decide) (by decide) (by decide)).trans h_mo_isSewn
  have hbg : ∀ i : Nat, i < 46 → i ≠ 0 → i ≠ 2 → i ≠ 3 → i ≠ 4 → i ≠ 5 → i ≠ 6 → i ≠ 7 → i ≠ 8 → i ≠ 9 → i ≠ 19 → i ≠ 31 → i ≠ 32 → i ≠ 33 → i ≠ 34 → i ≠ 35 → i ≠ 36 → i ≠ 37 → i ≠ 38 → σ22 i = σ0 i := fun i h46 a0 a1 a2 a3 a4 a5 a6 a7 a8 a9 a10 a11 a12 a13 a14 a15 a16 a17 => (hn i h46 a0 a1 a2 a3 a4 a5 a6 a7 a8).trans (hbg i h46 a0 a1 a2 a3 a4 a5 a6 a7 a8 a9 a10 a11 a12 a13 a14 a15 a16 a17)
  refine lv_aload_n hx hb dL_law_550 rfl (lv_at hl 2 rfl) ?_
  obtain ⟨r24, a25, a26, u27, a28, u29, u30, u31, a32, a33, a34, a35, u36, u37, a38, u39, u40, k41, hf⟩ := zb17_some hf
  refine zcVi (C := RX7) (As := []) (rest := [.int (zI r1)]) hx hb hml hown hts hl.1 hK hH hA (c_X7_commands hI hN  h_mo h_mo_colour h_mo_layer h_mo_isColumn h_mo_corners h_mo_cornerX h_mo_cornerY h_mo_density h_mo_longest h_mo_shift h_mo_pull h_mo_hasUnderlay h_mo_pointX h_mo_pointY h_mo_crossing h_mo_kind h_mo_byX h_mo_byY h_mo_fieldOf h_mo_isSewn k41) zk_t5_39 zk_t5_40 zk_t5_41 zk_t1_6 zk_t5_42 hd_X7_commands rfl ⟨rfl, rfl, Nat.le_of_ble_eq_true rfl, Nat.le_of_ble_eq_true rfl⟩ ⟨g_c, g_s⟩ hk_mo h_mo rfl rfl rfl (Nat.le_of_ble_eq_true rfl) dL_law_551 (fun q43 σ42 Hσ42 lσ42 hp hH => ?_)
  obtain ⟨hr1, h_mo, h_mo_pointX, h_mo_pointY, h_mo_crossing, h_mo_kind, h_mo_byX, h_mo_byY, h_mo_fieldOf, h_mo_isSewn, hn⟩ := hp
  replace hr1 := hr1.symm; subst hr1
  have h_sp := (hn 0 (by decide) (by decide) (by decide) (by decide) (by decide) (by decide) (by decide) (by decide) (by decide)).trans h_sp
  have h_sp_fields := (hn 1 (by decide) (by decide) (by decide) (by decide) (by decide) (by decide) (by decide) (by decide) (by decide)).trans h_sp_fields
  have h_sp_waiting := (hn 2 (by decide) (by decide) (by decide) (by decide) (by decide) (by decide) (by decide) (by decide) (by decide)).trans h_sp_waiting
  have h_pl := (hn 3 (by decide) (by decide) (by decide) (by decide) (by decide) (by decide) (by decide) (by decide) (by decide)).trans h_pl
  have h_pl_kinds := (hn 4 (by decide) (by decide) (by decide) (by decide) (by decide) (by decide) (by decide) (by decide) (by decide)).trans h_pl_kinds
  have h_pl_differencesX := (hn 5 (by decide) (by decide) (by decide) (by decide) (by decide) (by decide) (by decide) (by decide) (by decide)).trans h_pl_differencesX
  have h_pl_differencesY := (hn 6 (by decide) (by decide) (by decide) (by decide) (by decide) (by decide) (by decide) (by decide) (by decide)).trans h_pl_differencesY
  have h_pl_owners := (hn 7 (by decide) (by decide) (by decide) (by decide) (by decide) (by decide) (by decide) (by decide) (by decide)).trans h_pl_owners
  have h_pl_kindCounts := (hn 8 (by decide) (by decide) (by decide) (by decide) (by decide) (by decide) (by decide) (by decide) (by decide)).trans h_pl_kindCounts
  have h_pl_threads := (hn 9 (by decide) (by decide) (by decide) (by decide) (by decide) (by decide) (by decide) (by decide) (by decide)).trans h_pl_threads
  have h_mo_colour := (hn 20 (by decide) (by decide) (by decide) (by decide) (by decide) (by decide) (by decide) (by decide) (by decide)).trans h_mo_colour
  have h_mo_layer := (hn 21 (by decide) (by decide) (by decide) (by decide) (by decide) (by decide) (by decide) (by decide) (by decide)).trans h_mo_layer
  have h_mo_isColumn := (hn 22 (by decide) (by decide) (by decide) (by decide) (by decide) (by decide) (by decide) (by decide) (by decide)).trans h_mo_isColumn
  have h_mo_corners := (hn 23 (by decide) (by decide) (by decide) (by decide) (by decide) (by decide) (by decide) (by decide) (by decide)).trans h_mo_corners
  have h_mo_cornerX := (hn 24 (by decide) (by decide) (by decide) (by decide) (by decide) (by decide) (by decide) (by decide) (by decide)).trans h_mo_cornerX
  have h_mo_cornerY := (hn 25 (by decide) (by decide) (by decide) (by decide) (by decide) (by decide) (by decide) (by decide) (by decide)).trans h_mo_cornerY
  have h_mo_density := (hn 26 (by decide) (by decide) (by decide) (by decide) (by decide) (by decide) (by decide) (by decide) (by decide)).trans h_mo_density
  have h_mo_longest := (hn 27 (by decide) (by decide) (by decide) (by decide) (by decide) (by decide) (by decide) (by decide) (by decide)).trans h_mo_longest
  have h_mo_shift := (hn 28 (by decide) (by decide) (by decide) (by decide) (by decide) (by decide) (by decide) (by decide) (by decide)).trans h_mo_shift
  have h_mo_pull := (hn 29 (by decide) (by decide) (by decide) (by decide) (by decide) (by decide) (by decide) (by decide) (by decide)).trans h_mo_pull
  have h_mo_hasUnderlay := (hn 30 (by decide) (by decide) (by decide) (by decide) (by decide) (by decide) (by decide) (by decide) (by decide)).trans h_mo_hasUnderlay
  have h_FF := zFF_keep (fun i hi => hn i (by omega) (by omega) (by omega) (by omega) (by omega) (by omega) (by omega) (by omega) (by omega)) h_FF
  have hbg : ∀ i : Nat, i < 46 → i ≠ 0 → i ≠ 2 → i ≠ 3 → i ≠ 4 → i ≠ 5 → i ≠ 6 → i ≠ 7 → i ≠ 8 → i ≠ 9 → i ≠ 19 → i ≠ 31 → i ≠ 32 → i ≠ 33 → i ≠ 34 → i ≠ 35 → i ≠ 36 → i ≠ 37 → i ≠ 38 → σ42 i = σ0 i := fun i h46 a0 a1 a2 a3 a4 a5 a6 a7 a8 a9 a10 a11 a12 a13 a14 a15 a16 a17 => (hn i a9 a10 a11 a12 a13 a14 a15 a16 a17).trans (hbg i h46 a0 a1 a2 a3 a4 a5 a6 a7 a8 a9 a10 a11 a12 a13 a14 a15 a16 a17)
  obtain ⟨k44, hf⟩ := zck_some hf
  refine lz_icmp_eq (tgt := 1430) hx hb k44 dL_law_554 (by decide) (fun c45 => ?_) (fun c45 => ?_)
  · replace hf := (if_pos c45).symm.trans hf
    cases hf
    exact kk _ _ _ _ _ (by omega) (by omega) hH h_sp h_sp_waiting h_pl h_pl_kinds h_pl_differencesX h_pl_differencesY h_pl_owners h_pl_kindCounts h_pl_threads h_mo h_mo_pointX h_mo_pointY h_mo_crossing h_mo_kind h_mo_byX h_mo_byY h_mo_fieldOf h_mo_isSewn h_FF hbg _ (lv_sub hl [0, 1, 2, 3, 4, 5] rfl)
  · replace hf := (if_neg c45).symm.trans hf
    refine lv_iconst (v := zI 0) hx hb dL_law_557 (by decide +kernel) ?_
    cases hf
def f_law_ofCommand (sp_waiting : Int → Int) (sp_trimBound : Int) (sp_planned : Int) (F_fd_colour : Int → Int) (F_fd_layer : Int → Int) (F_fd_column : Int → Int) (F_fd_cornerXs : Int → Int → Int) (F_fd_cornerYs : Int → Int → Int) (F_fd_crossings : Int → Int → Int) (F_fd_cornerCount : Int → Int) (F_fd_crossingCount : Int → Int) (F_fd_density : Int → Int) (F_fd_length : Int → Int) (F_fd_shift : Int → Int) (F_fd_pull : Int → Int) (F_fd_underlay : Int → Int) (F_fd_drawn : Int → Int) (F_pt_xs : Int → Int → Int) (F_pt_ys : Int → Int → Int) (F_pt_size : Int → Int) (pl_kinds : Int → Int) (pl_differencesX : Int → Int) (pl_differencesY : Int → Int) (pl_owners : Int → Int) (pl_kindCounts : Int → Int) (pl_threads : Int → Int) (pl_size : Int) (pl_seconds : UInt32) (pl_needleX : Int) (pl_needleY : Int) (pl_colour : Int) (mo_fields : Int) (mo_colour : Int → Int) (mo_layer : Int → Int) (mo_isColumn : Int → Int) (mo_corners : Int → Int) (mo_cornerX : Int → Int) (mo_cornerY : Int → Int) (mo_density : Int → Int) (mo_longest : Int → Int) (mo_shift : Int → Int) (mo_pull : Int → Int) (mo_hasUnderlay : Int → Int) (mo_bound : Int) (mo_pointX : Int → Int) (mo_pointY : Int → Int) (mo_points : Int) (mo_crossing : Int → Int) (mo_crossings : Int) (mo_isKnown : Int) (mo_commands : Int) (mo_kind : Int → Int) (mo_byX : Int → Int) (mo_byY : Int → Int) (mo_fieldOf : Int → Int) (mo_needleX : Int) (mo_needleY : Int) (mo_isSewn : Int → Int) (mo_thrown : Int) (mo_rowY : Int) (lw_out : Int) (nF : Int) (w1 : Int) (w2 : Int) : Option ((Int → Int) × Int × (Int → Int → Int) × (Int → Int) × (Int → Int) × (Int → Int → Int) × (Int → Int → Int) × (Int → Int) × (Int → Int) × (Int → Int) × (Int → Int) × (Int → Int) × (Int → Int) × (Int → Int) × Int × UInt32 × Int × Int × Int × (Int → Int) × (Int → Int) × Int × (Int → Int) × Int × Int × Int × (Int → Int) × (Int → Int) × (Int → Int) × (Int → Int) × Int × Int × (Int → Int) × Int × Int × Int) :=
  zb21 (f_L_ofCommand sp_waiting sp_trimBound sp_planned F_fd_colour F_fd_layer F_fd_column F_fd_cornerXs F_fd_cornerYs F_fd_crossings F_fd_cornerCount F_fd_crossingCount F_fd_density F_fd_length F_fd_shift F_fd_pull F_fd_underlay F_fd_drawn F_pt_xs F_pt_ys F_pt_size pl_kinds pl_differencesX pl_differencesY pl_owners pl_kindCounts pl_threads pl_size pl_seconds pl_needleX pl_needleY pl_colour nF w1 w2 lw_out) fun r1 u2 u3 u4 u5 u6 u7 u8 u9 u10 u11 u12 u13 u14 u15 u16 u17 u18 u19 u20 u21 =>
  zb17 (f_X7_ofCommand mo_fields mo_colour mo_layer mo_isColumn mo_corners mo_cornerX mo_cornerY mo_density mo_longest mo_shift mo_pull mo_hasUnderlay mo_bound mo_pointX mo_pointY mo_points mo_crossing mo_crossings mo_isKnown mo_commands mo_kind mo_byX mo_byY mo_fieldOf mo_needleX mo_needleY mo_isSewn mo_thrown mo_rowY w1 w2) fun r25 a26 a27 u28 a29 u30 u31 u32 a33 a34 a35 a36 u37 u38 a39 u40 u41 =>
  zb1 (f_X7_thrown u40) fun r45 =>
  zck (zR r45 ∧ zR r1) <|
  if r45 = r1 then
    zck (zR r1) <|
    if r1 = 0 then
      zck (zR u21 ∧ zR r25) <|
      if u21 = r25 then
        some (u2, u3, u4, u5, u6, u7, u8, u9, u10, u11, u12, u13, u14, u15, u16, u17, u18, u19, u20, a26, a27, u28, a29, u30, u31, u32, a33, a34, a35, a36, u37, u38, a39, u40, u41, u21)
      else
        none
    else
      some (u2, u3, u4, u5, u6, u7, u8, u9, u10, u11, u12, u13, u14, u15, u16, u17, u18, u19, u20, a26, a27, u28, a29, u30, u31, u32, a33, a34, a35, a36, u37, u38, a39, u40, u41, u21)
  else
    none
set_option maxHeartbeats 4000000 in
set_option maxRecDepth 100000 in
theorem w_law_ofCommand {p : Program} {l : Launch} {e : Env} {s : State} {m : MethodId} {args : Array Value} {below : List Frame} {meth : Method} {c : Code} {Q : State → Prop} {D : va_G} {cI cZ cF cL cD : ClassId} {b L : Nat} {xs : Nat → Int32} {A : Nat → Prop} (hx : p.tables.exec = Jvm.exec) (hb : c.code = code) (hml : c.maxLocals = 10) (hown : s.vm.findClass RL = some m.cls) (hts : ∀ w ∈ wsL_law, w.before args s = true) (hst : l.stackTraces = false) (hNc : zNc s) (hX0 : va_X b L xs s s.heap) (hbl : b < s.heap.size) (hbA : ¬ A b) (hA : ∀ q, s.heap.size ≤ q → A q) (hK : zK D (zT cI cZ cF cL cD) s) (hXs : zXs A s s.heap) (hL : L ≤ 3584)
    {ad : Nat → Nat} {N : Nat} {nF : Int} (hN : 46 ≤ N) (hNF : N = 46 + 7 * nF.toNat) {σ0 : Nat → va_E} {H : Heap} {locs : List Loc} {cells slots : Nat} (hH : zH D ad N A s.heap σ0 H locs) {sp_waiting : Int → Int} {sp_fieldCount : Int} {sp_trimBound : Int} {sp_planned : Int} {F_fd_colour : Int → Int} {F_fd_layer : Int → Int} {F_fd_column : Int → Int} {F_fd_cornerXs : Int → Int → Int} {F_fd_cornerYs : Int → Int → Int} {F_fd_crossings : Int → Int → Int} {F_fd_cornerCount : Int → Int} {F_fd_crossingCount : Int → Int} {F_fd_density : Int → Int} {F_fd_length : Int → Int} {F_fd_shift : Int → Int} {F_fd_pull : Int → Int} {F_fd_underlay : Int → Int} {F_fd_drawn : Int → Int} {F_pt_xs : Int → Int → Int} {F_pt_ys : Int → Int → Int} {F_pt_size : Int → Int} {pl_kinds : Int → Int} {pl_differencesX : Int → Int} {pl_differencesY : Int → Int} {pl_owners : Int → Int} {pl_kindCounts : Int → Int} {pl_threads : Int → Int} {pl_size : Int} {pl_seconds : UInt32} {pl_needleX : Int} {pl_needleY : Int} {pl_colour : Int} {mo_fields : Int} {mo_colour : Int → Int} {mo_layer : Int → Int} {mo_isColumn : Int → Int} {mo_corners : Int → Int} {mo_cornerX : Int → Int} {mo_cornerY : Int → Int} {mo_density : Int → Int} {mo_longest : Int → Int} {mo_shift : Int → Int} {mo_pull : Int → Int} {mo_hasUnderlay : Int → Int} {mo_bound : Int} {mo_pointX : Int → Int} {mo_pointY : Int → Int} {mo_points : Int} {mo_crossing : Int → Int} {mo_crossings : Int} {mo_isKnown : Int} {mo_commands : Int} {mo_kind : Int → Int} {mo_byX : Int → Int} {mo_byY : Int → Int} {mo_fieldOf : Int → Int} {mo_needleX : Int} {mo_needleY : Int} {mo_isSewn : Int → Int} {mo_hasFile : Int} {mo_format : Int} {mo_length : Int} {mo_heads : Int} {mo_late : Int} {mo_ran : Int} {mo_program : Int} {mo_thrown : Int} {mo_rowY : Int} {mo_stitches : Int} {lw_out : Int} {R_sp_waiting : Int → Int} {R_sp_planned : Int} {R_F_fd_crossings : Int → Int → Int} {R_F_fd_crossingCount : Int → Int} {R_F_fd_drawn : Int → Int} {R_F_pt_xs : Int → Int → Int} {R_F_pt_ys : Int → Int → Int} {R_F_pt_size : Int → Int} {R_pl_kinds : Int → Int} {R_pl_differencesX : Int → Int} {R_pl_differencesY : Int → Int} {R_pl_owners : Int → Int} {R_pl_kindCounts : Int → Int} {R_pl_threads : Int → Int} {R_pl_size : Int} {R_pl_seconds : UInt32} {R_pl_needleX : Int} {R_pl_needleY : Int} {R_pl_colour : Int} {R_mo_pointX : Int → Int} {R_mo_pointY : Int → Int} {R_mo_points : Int} {R_mo_crossing : Int → Int} {R_mo_crossings : Int} {R_mo_isKnown : Int} {R_mo_commands : Int} {R_mo_kind : Int → Int} {R_mo_byX : Int → Int} {R_mo_byY : Int → Int} {R_mo_fieldOf : Int → Int} {R_mo_needleX : Int} {R_mo_needleY : Int} {R_mo_isSewn : Int → Int} {R_mo_thrown : Int} {R_mo_rowY : Int} {R_lw_out : Int} (h_sp : σ0 0 = oC_sp ad sp_fieldCount sp_trimBound sp_planned) (h_sp_fields : σ0 1 = .inl (cF, 8, .inr (.inr (.inr (.inr (zFA ad nF)))))) (h_sp_waiting : σ0 2 = .inl (cZ, 8, .inl (zA sp_waiting))) (h_pl : σ0 3 = oC_pl ad pl_size pl_seconds pl_needleX pl_needleY pl_colour) (h_pl_kinds : σ0 4 = .inl (cI, 16641, .inl (zA pl_kinds))) (h_pl_differencesX : σ0 5 = .inl (cI, 16641, .inl (zA pl_differencesX))) (h_pl_differencesY : σ0 6 = .inl (cI, 16641, .inl (zA pl_differencesY))) (h_pl_owners : σ0 7 = .inl (cI, 16641, .inl (zA pl_owners))) (h_pl_kindCounts : σ0 8 = .inl (cI, 5, .inl (zA pl_kindCounts))) (h_pl_threads : σ0 9 = .inl (cI, 6, .inl (zA pl_threads))) (h_mo : σ0 19 = oC_mo ad mo_fields mo_bound mo_points mo_crossings mo_isKnown mo_commands mo_needleX mo_needleY mo_hasFile mo_format mo_length mo_heads mo_late mo_ran mo_program mo_thrown mo_rowY mo_stitches) (h_mo_colour : σ0 20 = .inl (cI, 8, .inl (zA mo_colour))) (h_mo_layer : σ0 21 = .inl (cI, 8, .inl (zA mo_layer))) (h_mo_isColumn : σ0 22 = .inl (cZ, 8, .inl (zA mo_isColumn))) (h_mo_corners : σ0 23 = .inl (cI, 8, .inl (zA mo_corners))) (h_mo_cornerX : σ0 24 = .inl (cI, 64, .inl (zA mo_cornerX))) (h_mo_cornerY : σ0 25 = .inl (cI, 64, .inl (zA mo_cornerY))) (h_mo_density : σ0 26 = .inl (cI, 8, .inl (zA mo_density))) (h_mo_longest : σ0 27 = .inl (cI, 8, .inl (zA mo_longest))) (h_mo_shift : σ0 28 = .inl (cI, 8, .inl (zA mo_shift))) (h_mo_pull : σ0 29 = .inl (cI, 8, .inl (zA mo_pull))) (h_mo_hasUnderlay : σ0 30 = .inl (cZ, 8, .inl (zA mo_hasUnderlay))) (h_mo_pointX : σ0 31 = .inl (cI, 4096, .inl (zA mo_pointX))) (h_mo_pointY : σ0 32 = .inl (cI, 4096, .inl (zA mo_pointY))) (h_mo_crossing : σ0 33 = .inl (cI, 8, .inl (zA mo_crossing))) (h_mo_kind : σ0 34 = .inl (cI, 20000, .inl (zA mo_kind))) (h_mo_byX : σ0 35 = .inl (cI, 20000, .inl (zA mo_byX))) (h_mo_byY : σ0 36 = .inl (cI, 20000, .inl (zA mo_byY))) (h_mo_fieldOf : σ0 37 = .inl (cI, 20000, .inl (zA mo_fieldOf))) (h_mo_isSewn : σ0 38 = .inl (cZ, 8, .inl (zA mo_isSewn))) (h_lw_out : zO cL σ0 lw_out) (h_FF : zFF ad cI nF σ0 F_fd_colour F_fd_layer F_fd_column F_fd_cornerXs F_fd_cornerYs F_fd_crossings F_fd_cornerCount F_fd_crossingCount F_fd_density F_fd_length F_fd_shift F_fd_pull F_fd_underlay F_fd_drawn F_pt_xs F_pt_ys F_pt_size) {ii : Int} (hiL : 0 ≤ ii ∧ ii + 7 ≤ L) {w1 : Int} (hw1 : xs (ii.toNat + 1) = zI w1) (hR1 : zR w1) {w2 : Int} (hw2 : xs (ii.toNat + 2) = zI w2) (hR2 : zR w2) (hcs : cells + 9 ≤ 83562 ∧ slots + 4300 ≤ 8845420) {ls : Array Slot} (hl : lv_has ls 10 [(0, .ref b), (1, .ref (ad 0)), (2, .ref (ad 19)), (3, .ref (ad 44)), (4, .ref (ad 45)), (5, .int (zI ii))]) (hf : f_law_ofCommand sp_waiting sp_trimBound sp_planned F_fd_colour F_fd_layer F_fd_column F_fd_cornerXs F_fd_cornerYs F_fd_crossings F_fd_cornerCount F_fd_crossingCount F_fd_density F_fd_length F_fd_shift F_fd_pull F_fd_underlay F_fd_drawn F_pt_xs F_pt_ys F_pt_size pl_kinds pl_differencesX pl_differencesY pl_owners pl_kindCounts pl_threads pl_size pl_seconds pl_needleX pl_needleY pl_colour mo_fields mo_colour mo_layer mo_isColumn mo_corners mo_cornerX mo_cornerY mo_density mo_longest mo_shift mo_pull mo_hasUnderlay mo_bound mo_pointX mo_pointY mo_points mo_crossing mo_crossings mo_isKnown mo_commands mo_kind mo_byX mo_byY mo_fieldOf mo_needleX mo_needleY mo_isSewn mo_thrown mo_rowY lw_out nF w1 w2 = some (R_sp_waiting, R_sp_planned, R_F_fd_crossings, R_F_fd_crossingCount, R_F_fd_drawn, R_F_pt_xs, R_F_pt_ys, R_F_pt_size, R_pl_kinds, R_pl_differencesX, R_pl_differencesY, R_pl_owners, R_pl_kindCounts, R_pl_threads, R_pl_size, R_pl_seconds, R_pl_needleX, R_pl_needleY, R_pl_colour, R_mo_pointX, R_mo_pointY, R_mo_points, R_mo_crossing, R_mo_crossings, R_mo_isKnown, R_mo_commands, R_mo_kind, R_mo_byX, R_mo_byY, R_mo_fieldOf, R_mo_needleX, R_mo_needleY, R_mo_isSewn, R_mo_thrown, R_mo_rowY, R_lw_out))
    (kk : ∀ (σ : Nat → va_E) (H : Heap) (locs : List Loc) (cells1 slots1 : Nat), cells1 ≤ cells + 9 → slots1 ≤ slots + 4300 → zH D ad N A s.heap σ H locs → ∀ (h_sp : σ 0 = oC_sp ad sp_fieldCount sp_trimBound R_sp_planned) (h_sp_waiting : σ 2 = .inl (cZ, 8, .inl (zA R_sp_waiting))) (h_pl : σ 3 = oC_pl ad R_pl_size R_pl_seconds R_pl_needleX R_pl_needleY R_pl_colour) (h_pl_kinds : σ 4 = .inl (cI, 16641, .inl (zA R_pl_kinds))) (h_pl_differencesX : σ 5 = .inl (cI, 16641, .inl (zA R_pl_differencesX))) (h_pl_differencesY : σ 6 = .inl (cI, 16641, .inl (zA R_pl_differencesY))) (h_pl_owners : σ 7 = .inl (cI, 16641, .inl (zA R_pl_owners))) (h_pl_kindCounts : σ 8 = .inl (cI, 5, .inl (zA R_pl_kindCounts))) (h_pl_threads : σ 9 = .inl (cI, 6, .inl (zA R_pl_threads))) (h_mo : σ 19 = oC_mo ad mo_fields mo_bound R_mo_points R_mo_crossings R_mo_isKnown R_mo_commands R_mo_needleX R_mo_needleY mo_hasFile mo_format mo_length mo_heads mo_late mo_ran mo_program R_mo_thrown R_mo_rowY mo_stitches) (h_mo_pointX : σ 31 = .inl (cI, 4096, .inl (zA R_mo_pointX))) (h_mo_pointY : σ 32 = .inl (cI, 4096, .inl (zA R_mo_pointY))) (h_mo_crossing : σ 33 = .inl (cI, 8, .inl (zA R_mo_crossing))) (h_mo_kind : σ 34 = .inl (cI, 20000, .inl (zA R_mo_kind))) (h_mo_byX : σ 35 = .inl (cI, 20000, .inl (zA R_mo_byX))) (h_mo_byY : σ 36 = .inl (cI, 20000, .inl (zA R_mo_byY))) (h_mo_fieldOf : σ 37 = .inl (cI, 20000, .inl (zA R_mo_fieldOf))) (h_mo_isSewn : σ 38 = .inl (cZ, 8, .inl (zA R_mo_isSewn))) (h_lw_out : zO cL σ R_lw_out) (h_FF : zFF ad cI nF σ F_fd_colour F_fd_layer F_fd_column F_fd_cornerXs F_fd_cornerYs R_F_fd_crossings F_fd_cornerCount R_F_fd_crossingCount F_fd_density F_fd_length F_fd_shift F_fd_pull F_fd_underlay R_F_fd_drawn R_F_pt_xs R_F_pt_ys R_F_pt_size), ∀ (hbg : ∀ i : Nat, i < 46 → i ≠ 0 → i ≠ 2 → i ≠ 3 → i ≠ 4 → i ≠ 5 → i ≠ 6 → i ≠ 7 → i ≠ 8 → i ≠ 9 → i ≠ 19 → i ≠ 31 → i ≠ 32 → i ≠ 33 → i ≠ 34 → i ≠ 35 → i ≠ 36 → i ≠ 37 → i ≠ 38 → i ≠ 44 → σ i = σ0 i) (ls : Array Slot), lv_has ls 10 [(0, .ref b), (1, .ref (ad 0)), (2, .ref (ad 19)), (3, .ref (ad 44)), (4, .ref (ad 45)), (5, .int (zI ii))] → W p l e room_1 s m args below meth c H locs cells1 slots1 Q (F0 m 1430 ls [])) : W p l e room_1 s m args below meth c H locs cells slots Q (F0 m 559 ls []) := by
  have hI := zD_inj hH.2.1
  have g_c : cells ≤ 83562 := by omega
  have g_s : slots ≤ 8845420 := by omega
  have hk_out : 44 < N := by omega
  have hk_outD : 45 < N := by omega
  have hk_sp : 0 < N := by omega
  have hk_sp_fields : 1 < N := by omega
  have hk_sp_waiting : 2 < N := by omega
  have hk_pl : 3 < N := by omega
  have hk_pl_kinds : 4 < N := by omega
  have hk_pl_differencesX : 5 < N := by omega
  have hk_pl_differencesY : 6 < N := by omega
  have hk_pl_owners : 7 < N := by omega
  have hk_pl_kindCounts : 8 < N := by omega
  have hk_pl_threads : 9 < N := by omega
  have hk_mo : 19 < N := by omega
  have hk_mo_colour : 20 < N := by omega
  have hk_mo_layer : 21 < N := by omega
  have hk_mo_isColumn : 22 < N := by omega
  have hk_mo_corners : 23 < N := by omega
  have hk_mo_cornerX : 24 < N := by omega
  have hk_mo_cornerY : 25 < N := by omega
  have hk_mo_density : 26 < N := by omega
  have hk_mo_longest : 27 < N := by omega
  have hk_mo_shift : 28 < N := by omega
  have hk_mo_pull : 29 < N := by omega
  have hk_mo_hasUnderlay : 30 < N := by omega
  have hk_mo_pointX : 31 < N := by omega
  have hk_mo_pointY : 32 < N := by omega
  have hk_mo_crossing : 33 < N := by omega
  have hk_mo_kind : 34 < N := by omega
  have hk_mo_byX : 35 < N := by omega
  have hk_mo_byY : 36 < N := by omega
  have hk_mo_fieldOf : 37 < N := by omega
  have hk_mo_isSewn : 38 < N := by omega
  have hbg : ∀ i : Nat, i < 46 → i ≠ 0 → i ≠ 2 → i ≠ 3 → i ≠ 4 → i ≠ 5 → i ≠ 6 → i ≠ 7 → i ≠ 8 → i ≠ 9 → i ≠ 19 → i ≠ 31 → i ≠ 32 → i ≠ 33 → i ≠ 34 → i ≠ 35 → i ≠ 36 → i ≠ 37 → i ≠ 38 → i ≠ 44 → σ0 i = σ0 i := fun _ _ _ _ _ _ _ _ _ _ _ _ _ _ _ _ _ _ _ _ _ => rfl
  unfold f_law_ofCommand at hf
  refine lv_aload_n hx hb dL_law_559 rfl (lv_at hl 1 rfl) ?_
  refine lv_aload_n hx hb dL_law_560 rfl (lv_at hl 0 rfl) ?_
  refine lv_iload hx hb dL_law_561 (lv_at hl 5 rfl) ?_
  refine lv_iconst (v := zI 1) hx hb dL_law_563 (by decide +kernel) ?_
  refine lz_iadd hx hb dL_law_564 ?_
  refine lz_sld hx hb hX0 hbl hbA hH.2.2 hiL hL 1 (by decide) hw1 dL_law_565 ?_
  refine lv_aload_n hx hb dL_law_566 rfl (lv_at hl 0 rfl) ?_
  refine lv_iload hx hb dL_law_567 (lv_at hl 5 rfl) ?_
  refine lv_iconst (v := zI 2) hx hb dL_law_569 (by decide +kernel) ?_
  refine lz_iadd hx hb dL_law_570 ?_
  refine lz_sld hx hb hX0 hbl hbA hH.2.2 hiL hL 2 (by decide) hw2 dL_law_571 ?_
  refine lv_aload_n hx hb dL_law_572 rfl (lv_at hl 3 rfl) ?_
  obtain ⟨r1, u2, u3, u4, u5, u6, u7, u8, u9, u10, u11, u12, u13, u14, u15, u16, u17, u18, u19, u20, u21, k22, hf⟩ := zb21_some hf
  refine zcH (As := [.ref (ad 0), .int (zI w1), .int (zI w2), .ref (ad 44)]) (rest := []) hx hb hml hown hts hl.1 hK hH hA (hXs.kept hH.2.2.2.1) hNc (c_L_ofCommand (zD_inj hH.2.1) hN hNF hst h_sp h_sp_fields h_sp_waiting h_pl h_pl_kinds h_pl_differencesX h_pl_differencesY h_pl_owners h_pl_kindCounts h_pl_threads h_FF h_lw_out k22) zk_t3_137 zk_t3_138 zk_t1_0 zk_t3_139 hd_L_ofCommand rfl ⟨rfl, rfl, Nat.le_of_ble_eq_true rfl, Nat.le_of_ble_eq_true rfl⟩ ⟨by show _ ≤ 83562; omega, by show _ ≤ 8845420; omega⟩ rfl (Nat.le_of_ble_eq_true rfl) dL_law_573 (fun q24 σ23 Hσ23 lσ23 hp hH => ?_)
  obtain ⟨hr1, h_sp, h_sp_waiting, h_pl, h_pl_kinds, h_pl_differencesX, h_pl_differencesY, h_pl_owners, h_pl_kindCounts, h_pl_threads, h_FF, h_lw_out, hn⟩ := hp
  subst hr1
  have h_sp_fields := (hn 1 (by decide) (by decide) (by decide) (by decide) (by decide) (by decide) (by decide) (by decide) (by decide) (by decide) (by decide)).trans h_sp_fields
  have h_mo := (hn 19 (by decide) (by decide) (by decide) (by decide) (by decide) (by decide) (by decide) (by decide) (by decide) (by decide) (by decide)).trans h_mo
  have h_mo_colour := (hn 20 (by decide) (by decide) (by decide) (by decide) (by decide) (by decide) (by decide) (by decide) (by decide) (by decide) (by decide)).trans h_mo_colour
  have h_mo_layer := (hn 21 (by decide) (by decide) (by decide) (by decide) (by decide) (by decide) (by decide) (by decide) (by decide) (by decide) (by decide)).trans h_mo_layer
  have h_mo_isColumn := (hn 22 (by decide) (by decide) (by decide) (by decide) (by decide) (by decide) (by decide) (by decide) (by decide) (by decide) (by decide)).trans h_mo_isColumn
  have h_mo_corners := (hn 23 (by decide) (by decide) (by decide) (by decide) (by decide) (by decide) (by decide) (by decide) (by decide) (by decide) (by decide)).trans h_mo_corners
  have h_mo_cornerX := (hn 24 (by decide) (by decide) (by decide) (by decide) (by decide) (by decide) (by decide) (by decide) (by decide) (by decide) (by decide)).trans h_mo_cornerX
  have h_mo_cornerY := (hn 25 (by decide) (by decide) (by decide) (by decide) (by decide) (by decide) (by decide) (by decide) (by decide) (by decide) (by decide)).trans h_mo_cornerY
  have h_mo_density := (hn 26 (by decide) (by decide) (by decide) (by decide) (by decide) (by decide) (by decide) (by decide) (by decide) (by decide) (by decide)).trans h_mo_density
  have h_mo_longest := (hn 27 (by decide) (by decide) (by decide) (by decide) (by decide) (by decide) (by decide) (by decide) (by decide) (by decide) (by decide)).trans h_mo_longest
  have h_mo_shift := (hn 28 (by decide) (by decide) (by decide) (by decide) (by decide) (by decide) (by decide) (by decide) (by decide) (by decide) (by decide)).trans h_mo_shift
  have h_mo_pull := (hn 29 (by decide) (by decide) (by decide) (by decide) (by decide) (by decide) (by decide) (by decide) (by decide) (by decide) (by decide)).trans h_mo_pull
  have h_mo_hasUnderlay := (hn 30 (by decide) (by decide) (by decide) (by decide) (by decide) (by decide) (by decide) (by decide) (by decide) (by decide) (by decide)).trans h_mo_hasUnderlay
  have h_mo_pointX := (hn 31 (by decide) (by decide) (by decide) (by decide) (by decide) (by decide) (by decide) (by decide) (by decide) (by decide) (by decide)).trans h_mo_pointX
  have h_mo_pointY := (hn 32 (by decide) (by decide) (by decide) (by decide) (by decide) (by decide) (by decide) (by decide) (by decide) (by decide) (by decide)).trans h_mo_pointY
  have h_mo_crossing := (hn 33 (by decide) (by decide) (by decide) (by decide) (by decide) (by decide) (by decide) (by decide) (by decide) (by decide) (by decide)).trans h_mo_crossing
  have h_mo_kind := (hn 34 (by decide) (by decide) (by decide) (by decide) (by decide) (by decide) (by decide) (by decide) (by decide) (by decide) (by decide)).trans h_mo_kind
  have h_mo_byX := (hn 35 (by decide) (by decide) (by decide) (by decide) (by decide) (by decide) (by decide) (by decide) (by decide) (by decide) (by decide)).trans h_mo_byX
  have h_mo_byY := (hn 36 (by decide) (by decide) (by decide) (by decide) (by decide) (by decide) (by decide) (by decide) (by decide) (by decide) (by decide)).trans h_mo_byY
  have h_mo_fieldOf := (hn 37 (by decide) (by decide) (by decide) (by decide) (by decide) (by decide) (by decide) (by decide) (by decide) (by decide) (by decide)).trans h_mo_fieldOf
  have h_mo_isSewn := (hn 38 (by decide) (by decide) (by decide) (by decide) (by decide) (by decide) (by decide) (by decide) (by decide) (by decide) (by decide)).trans h_mo_isSewn
  have hbg : ∀ i : Nat, i < 46 → i ≠ 0 → i ≠ 2 → i ≠ 3 → i ≠ 4 → i ≠ 5 → i ≠ 6 → i ≠ 7 → i ≠ 8 → i ≠ 9 → i ≠ 19 → i ≠ 31 → i ≠ 32 → i ≠ 33 → i ≠ 34 → i ≠ 35 → i ≠ 36 → i ≠ 37 → i ≠ 38 → i ≠ 44 → σ23 i = σ0 i := fun i h46 a0 a1 a2 a3 a4 a5 a6 a7 a8 a9 a10 a11 a12 a13 a14 a15 a16 a17 a18 => (hn i h46 a0 a1 a2 a3 a4 a5 a6 a7 a8 a18).trans (hbg i h46 a0 a1 a2 a3 a4 a5 a6 a7 a8 a9 a10 a11 a12 a13 a14 a15 a16 a17 a18)
  have g_c : cells + 1 ≤ 83562 := by omega
  have g_s : slots + 6 ≤ 8845420 := by omega
  refine lv_istore (lv' := [(6, .int (zI r1)), (0, .ref b), (1, .ref (ad 0)), (2, .ref (ad 19)), (3, .ref (ad 44)), (4, .ref (ad 45)), (5, .int (zI ii))]) hx hb dL_law_576 hl (by decide) rfl (fun ls hl => ?_)
  refine lv_aload_n hx hb dL_law_578 rfl (lv_at hl 3 rfl) ?_
  refine lv_aload_n hx hb dL_law_579 rfl (lv_at hl 1 rfl) ?_
  refine lv_iload hx hb dL_law_580 (lv_at hl 6 rfl) ?_
  refine lv_iconst (v := zI 1) hx hb dL_law_582 (by decide +kernel) ?_
  refine lz_iadd hx hb dL_law_583 ?_
  refine lz_sld hx hb hX0 hbl hbA hH.2.2 hiL hL 1 (by decide) hw1 dL_law_584 ?_
  refine lv_aload_n hx hb dL_law_585 rfl (lv_at hl 1 rfl) ?_
  refine lv_iload hx hb dL_law_586 (lv_at hl 6 rfl) ?_
  refine lv_iconst (v := zI 2) hx hb dL_law_588 (by decide +kernel) ?_
  refine lz_iadd hx hb dL_law_589 ?_
  refine lz_sld hx hb hX0 hbl hbA hH.2.2 hiL hL 2 (by decide) hw2 dL_law_590 ?_
  obtain ⟨r25, a26, a27, u28, a29, u30, u31, u32, a33, a34, a35, a36, u37, u38, a39, u40, u41, k42, hf⟩ := zb17_some hf
  refine zcVi (C := RX7) (As := [.int (zI w1), .int (zI w2)]) (rest := []) hx hb hml hown hts hl.1 hK hH hA (c_X7_ofCommand hI hN  h_mo h_mo_colour h_mo_layer h_mo_isColumn h_mo_corners h_mo_cornerX h_mo_cornerY h_mo_density h_mo_longest h_mo_shift h_mo_pull h_mo_hasUnderlay h_mo_pointX h_mo_pointY h_mo_crossing h_mo_kind h_mo_byX h_mo_byY h_mo_fieldOf h_mo_isSewn k42) zk_t5_103 zk_t5_104 zk_t5_105 zk_t1_6 zk_t5_106 hd_X7_ofCommand rfl ⟨rfl, rfl, Nat.le_of_ble_eq_true rfl, Nat.le_of_ble_eq_true rfl⟩ ⟨g_c, g_s⟩ hk_mo h_mo rfl rfl rfl (Nat.le_of_ble_eq_true rfl) dL_law_591 (fun q44 σ43 Hσ43 lσ43 hp hH => ?_)
  obtain ⟨hr1, h_mo, h_mo_pointX, h_mo_pointY, h_mo_crossing, h_mo_kind, h_mo_byX, h_mo_byY, h_mo_fieldOf, h_mo_isSewn, hn⟩ := hp
  replace hr1 := hr1.symm; subst hr1
  have h_sp := (hn 0 (by decide) (by decide) (by decide) (by decide) (by decide) (by decide) (by decide) (by decide) (by decide)).trans h_sp
  have h_sp_fields := (hn 1 (by decide) (by decide) (by decide) (by decide) (by decide) (by decide) (by decide) (by decide) (by decide)).trans h_sp_fields
  have h_sp_waiting := (hn 2 (by decide) (by decide) (by decide) (by decide) (by decide) (by decide) (by decide) (by decide) (by decide)).trans h_sp_waiting
  have h_pl := (hn 3 (by decide) (by decide) (by decide) (by decide) (by decide) (by decide) (by decide) (by decide) (by decide)).trans h_pl
  have h_pl_kinds := (hn 4 (by decide) (by decide) (by decide) (by decide) (by decide) (by decide) (by decide) (by decide) (by decide)).trans h_pl_kinds
  have h_pl_differencesX := (hn 5 (by decide) (by decide) (by decide) (by decide) (by decide) (by decide) (by decide) (by decide) (by decide)).trans h_pl_differencesX
  have h_pl_differencesY := (hn 6 (by decide) (by decide) (by decide) (by decide) (by decide) (by decide) (by decide) (by decide) (by decide)).trans h_pl_differencesY
  have h_pl_owners := (hn 7 (by decide) (by decide) (by decide) (by decide) (by decide) (by decide) (by decide) (by decide) (by decide)).trans h_pl_owners
  have h_pl_kindCounts := (hn 8 (by decide) (by decide) (by decide) (by decide) (by decide) (by decide) (by decide) (by decide) (by decide)).trans h_pl_kindCounts
  have h_pl_threads := (hn 9 (by decide) (by decide) (by decide) (by decide) (by decide) (by decide) (by decide) (by decide) (by decide)).trans h_pl_threads
  have h_mo_colour := (hn 20 (by decide) (by decide) (by decide) (by decide) (by decide) (by decide) (by decide) (by decide) (by decide)).trans h_mo_colour
  have h_mo_layer := (hn 21 (by decide) (by decide) (by decide) (by decide) (by decide) (by decide) (by decide) (by decide) (by decide)).trans h_mo_layer
  have h_mo_isColumn := (hn 22 (by decide) (by decide) (by decide) (by decide) (by decide) (by decide) (by decide) (by decide) (by decide)).trans h_mo_isColumn
  have h_mo_corners := (hn 23 (by decide) (by decide) (by decide) (by decide) (by decide) (by decide) (by decide) (by decide) (by decide)).trans h_mo_corners
  have h_mo_cornerX := (hn 24 (by decide) (by decide) (by decide) (by decide) (by decide) (by decide) (by decide) (by decide) (by decide)).trans h_mo_cornerX
  have h_mo_cornerY := (hn 25 (by decide) (by decide) (by decide) (by decide) (by decide) (by decide) (by decide) (by decide) (by decide)).trans h_mo_cornerY
  have h_mo_density := (hn 26 (by decide) (by decide) (by decide) (by decide) (by decide) (by decide) (by decide) (by decide) (by decide)).trans h_mo_density
  have h_mo_longest := (hn 27 (by decide) (by decide) (by decide) (by decide) (by decide) (by decide) (by decide) (by decide) (by decide)).trans h_mo_longest
  have h_mo_shift := (hn 28 (by decide) (by decide) (by decide) (by decide) (by decide) (by decide) (by decide) (by decide) (by decide)).trans h_mo_shift
  have h_mo_pull := (hn 29 (by decide) (by decide) (by decide) (by decide) (by decide) (by decide) (by decide) (by decide) (by decide)).trans h_mo_pull
  have h_mo_hasUnderlay := (hn 30 (by decide) (by decide) (by decide) (by decide) (by decide) (by decide) (by decide) (by decide) (by decide)).trans h_mo_hasUnderlay
  have h_FF := zFF_keep (fun i hi => hn i (by omega) (by omega) (by omega) (by omega) (by omega) (by omega) (by omega) (by omega) (by omega)) h_FF
  have hbg : ∀ i : Nat, i < 46 → i ≠ 0 → i ≠ 2 → i ≠ 3 → i ≠ 4 → i ≠ 5 → i ≠ 6 → i ≠ 7 → i ≠ 8 → i ≠ 9 → i ≠ 19 → i ≠ 31 → i ≠ 32 → i ≠ 33 → i ≠ 34 → i ≠ 35 → i ≠ 36 → i ≠ 37 → i ≠ 38 → i ≠ 44 → σ43 i = σ0 i := fun i h46 a0 a1 a2 a3 a4 a5 a6 a7 a8 a9 a10 a11 a12 a13 a14 a15 a16 a17 a18 => (hn i a9 a10 a11 a12 a13 a14 a15 a16 a17).trans (hbg i h46 a0 a1 a2 a3 a4 a5 a6 a7 a8 a9 a10 a11 a12 a13 a14 a15 a16 a17 a18)
  have h_lw_out := zO_keep h_lw_out (hn 44 (by decide) (by decide) (by decide) (by decide) (by decide) (by decide) (by decide) (by decide) (by decide))
  refine lv_istore (lv' := [(7, .int (zI r25)), (6, .int (zI r1)), (0, .ref b), (1, .ref (ad 0)), (2, .ref (ad 19)), (3, .ref (ad 44)), (4, .ref (ad 45)), (5, .int (zI ii))]) hx hb dL_law_594 hl (by decide) rfl (fun ls hl => ?_)
  refine lv_aload_n hx hb dL_law_596 rfl (lv_at hl 4 rfl) ?_
  obtain ⟨r45, k46, hf⟩ := zb1_some hf
  refine zcVi (C := RX7) (As := []) (rest := []) hx hb hml hown hts hl.1 hK hH hA (c_X7_thrown hI hN  h_mo k46) zk_t5_0 zk_t5_1 zk_t5_2 zk_t1_6 zk_t5_3 hd_X7_thrown rfl ⟨rfl, rfl, Nat.le_of_ble_eq_true rfl, Nat.le_of_ble_eq_true rfl⟩ ⟨g_c, g_s⟩ hk_mo h_mo rfl rfl rfl (Nat.le_of_ble_eq_true rfl) dL_law_597 (fun q48 σ47 Hσ47 lσ47 hp hH => ?_)
  obtain ⟨hr1, hs1⟩ := hp; replace hr1 := hr1.symm; subst hr1; rw [hs1] at hH
  refine lv_iload hx hb dL_law_600 (lv_at hl 1 rfl) ?_
  obtain ⟨k49, hf⟩ := zck_some hf
  refine lz_icmp_eq (tgt := 607) hx hb k49 dL_law_602 (by decide) (fun c50 => ?_) (fun c50 => ?_)
  · replace hf := (if_pos c50).symm.trans hf
    refine lv_iload hx hb dL_law_607 (lv_at hl 1 rfl) ?_
    obtain ⟨k51, hf⟩ := zck_some hf
    refine lz_if_ne (tgt := 624) hx hb k51 dL_law_609 (by decide) (fun c52 => ?_) (fun c52 => ?_)
    · replace hf := (if_neg c52).symm.trans hf
      refine lv_goto (tgt := 1430) hx hb dL_law_624 (by decide) ?_
      cases hf
      exact kk _ _ _ _ _ (by omega) (by omega) hH h_sp h_sp_waiting h_pl h_pl_kinds h_pl_differencesX h_pl_differencesY h_pl_owners h_pl_kindCounts h_pl_threads h_mo h_mo_pointX h_mo_pointY h_mo_crossing h_mo_kind h_mo_byX h_mo_byY h_mo_fieldOf h_mo_isSewn h_lw_out h_FF hbg _ (lv_sub hl [2, 3, 4, 5, 6, 7] rfl)
    · replace hf := (if_pos c52).symm.trans hf
      refine lv_aload_n hx hb dL_law_612 rfl (lv_at hl 5 rfl) ?_
      refine lv_iconst (v := zI 0) hx hb dL_law_613 (by decide +kernel) ?_
      refine zlald hx hb hK hH hk_out h_lw_out rfl dL_law_614 ?_
      refine lv_iload hx hb dL_law_615 (lv_at hl 0 rfl) ?_
      refine lv_i2l hx hb dL_law_617 rfl ?_
      obtain ⟨k53, hf⟩ := zck_some hf
      refine lz_lcmpeq (tgt := 624) hx hb k53 dL_law_618 dL_law_619 (by decide) (fun c54 => ?_) (fun c54 => ?_)
      · replace hf := (if_pos c54).symm.trans hf
        refine lv_goto (tgt := 1430) hx hb dL_law_624 (by decide) ?_
        cases hf
        exact kk _ _ _ _ _ (by omega) (by omega) hH h_sp h_sp_waiting h_pl h_pl_kinds h_pl_differencesX h_pl_differencesY h_pl_owners h_pl_kindCounts h_pl_threads h_mo h_mo_pointX h_mo_pointY h_mo_crossing h_mo_kind h_mo_byX h_mo_byY h_mo_fieldOf h_mo_isSewn h_lw_out h_FF hbg _ (lv_sub hl [2, 3, 4, 5, 6, 7] rfl)
      · replace hf := (if_neg c54).symm.trans hf
        refine lv_iconst (v := zI 0) hx hb dL_law_622 (by decide +kernel) ?_
        cases hf
  · replace hf := (if_neg c50).symm.trans hf
    refine lv_iconst (v := zI 0) hx hb dL_law_605 (by decide +kernel) ?_
    cases hf
def f_law_count (sp_waiting : Int → Int) (sp_trimBound : Int) (sp_planned : Int) (F_fd_colour : Int → Int) (F_fd_layer : Int → Int) (F_fd_column : Int → Int) (F_fd_cornerXs : Int → Int → Int) (F_fd_cornerYs : Int → Int → Int) (F_fd_crossings : Int → Int → Int) (F_fd_cornerCount : Int → Int) (F_fd_crossingCount : Int → Int) (F_fd_density : Int → Int) (F_fd_length : Int → Int) (F_fd_shift : Int → Int) (F_fd_pull : Int → Int) (F_fd_underlay : Int → Int) (F_fd_drawn : Int → Int) (F_pt_xs : Int → Int → Int) (F_pt_ys : Int → Int → Int) (F_pt_size : Int → Int) (pl_kinds : Int → Int) (pl_differencesX : Int → Int) (pl_differencesY : Int → Int) (pl_owners : Int → Int) (pl_kindCounts : Int → Int) (pl_threads : Int → Int) (pl_size : Int) (pl_seconds : UInt32) (pl_needleX : Int) (pl_needleY : Int) (pl_colour : Int) (mo_fields : Int) (mo_colour : Int → Int) (mo_layer : Int → Int) (mo_isColumn : Int → Int) (mo_corners : Int → Int) (mo_cornerX : Int → Int) (mo_cornerY : Int → Int) (mo_density : Int → Int) (mo_longest : Int → Int) (mo_shift : Int → Int) (mo_pull : Int → Int) (mo_hasUnderlay : Int → Int) (mo_bound : Int) (mo_pointX : Int → Int) (mo_pointY : Int → Int) (mo_points : Int) (mo_crossing : Int → Int) (mo_crossings : Int) (mo_isKnown : Int) (mo_commands : Int) (mo_kind : Int → Int) (mo_byX : Int → Int) (mo_byY : Int → Int) (mo_fieldOf : Int → Int) (mo_needleX : Int) (mo_needleY : Int) (mo_isSewn : Int → Int) (mo_thrown : Int) (mo_rowY : Int) (lw_out : Int) (nF : Int) (w1 : Int) : Option ((Int → Int) × Int × (Int → Int → Int) × (Int → Int) × (Int → Int) × (Int → Int → Int) × (Int → Int → Int) × (Int → Int) × (Int → Int) × (Int → Int) × (Int → Int) × (Int → Int) × (Int → Int) × (Int → Int) × Int × UInt32 × Int × Int × Int × (Int → Int) × (Int → Int) × Int × (Int → Int) × Int × Int × Int × (Int → Int) × (Int → Int) × (Int → Int) × (Int → Int) × Int × Int × (Int → Int) × Int × Int × Int) :=
  zb21 (f_L_count sp_waiting sp_trimBound sp_planned F_fd_colour F_fd_layer F_fd_column F_fd_cornerXs F_fd_cornerYs F_fd_crossings F_fd_cornerCount F_fd_crossingCount F_fd_density F_fd_length F_fd_shift F_fd_pull F_fd_underlay F_fd_drawn F_pt_xs F_pt_ys F_pt_size pl_kinds pl_differencesX pl_differencesY pl_owners pl_kindCounts pl_threads pl_size pl_seconds pl_needleX pl_needleY pl_colour nF w1 lw_out) fun r1 u2 u3 u4 u5 u6 u7 u8 u9 u10 u11 u12 u13 u14 u15 u16 u17 u18 u19 u20 u21 =>
  zb17 (f_X7_count mo_fields mo_colour mo_layer mo_isColumn mo_corners mo_cornerX mo_cornerY mo_density mo_longest mo_shift mo_pull mo_hasUnderlay mo_bound mo_pointX mo_pointY mo_points mo_crossing mo_crossings mo_isKnown mo_commands mo_kind mo_byX mo_byY mo_fieldOf mo_needleX mo_needleY mo_isSewn mo_thrown mo_rowY w1) fun r25 a26 a27 u28 a29 u30 u31 u32 a33 a34 a35 a36 u37 u38 a39 u40 u41 =>
  zb1 (f_X7_thrown u40) fun r45 =>
  zck (zR r45 ∧ zR r1) <|
  if r45 = r1 then
    zck (zR r1) <|
    if r1 = 0 then
      zck (zR u21 ∧ zR r25) <|
      if u21 = r25 then
        some (u2, u3, u4, u5, u6, u7, u8, u9, u10, u11, u12, u13, u14, u15, u16, u17, u18, u19, u20, a26, a27, u28, a29, u30, u31, u32, a33, a34, a35, a36, u37, u38, a39, u40, u41, u21)
      else
        none
    else
      some (u2, u3, u4, u5, u6, u7, u8, u9, u10, u11, u12, u13, u14, u15, u16, u17, u18, u19, u20, a26, a27, u28, a29, u30, u31, u32, a33, a34, a35, a36, u37, u38, a39, u40, u41, u21)
  else
    none
set_option maxHeartbeats 4000000 in
set_option maxRecDepth 100000 in
theorem w_law_count {p : Program} {l : Launch} {e : Env} {s : State} {m : MethodId} {args : Array Value} {below : List Frame} {meth : Method} {c : Code} {Q : State → Prop} {D : va_G} {cI cZ cF cL cD : ClassId} {b L : Nat} {xs : Nat → Int32} {A : Nat → Prop} (hx : p.tables.exec = Jvm.exec) (hb : c.code = code) (hml : c.maxLocals = 10) (hown : s.vm.findClass RL = some m.cls) (hts : ∀ w ∈ wsL_law, w.before args s = true) (hst : l.stackTraces = false) (hNc : zNc s) (hX0 : va_X b L xs s s.heap) (hbl : b < s.heap.size) (hbA : ¬ A b) (hA : ∀ q, s.heap.size ≤ q → A q) (hK : zK D (zT cI cZ cF cL cD) s) (hXs : zXs A s s.heap) (hL : L ≤ 3584)
    {ad : Nat → Nat} {N : Nat} {nF : Int} (hN : 46 ≤ N) (hNF : N = 46 + 7 * nF.toNat) {σ0 : Nat → va_E} {H : Heap} {locs : List Loc} {cells slots : Nat} (hH : zH D ad N A s.heap σ0 H locs) {sp_waiting : Int → Int} {sp_fieldCount : Int} {sp_trimBound : Int} {sp_planned : Int} {F_fd_colour : Int → Int} {F_fd_layer : Int → Int} {F_fd_column : Int → Int} {F_fd_cornerXs : Int → Int → Int} {F_fd_cornerYs : Int → Int → Int} {F_fd_crossings : Int → Int → Int} {F_fd_cornerCount : Int → Int} {F_fd_crossingCount : Int → Int} {F_fd_density : Int → Int} {F_fd_length : Int → Int} {F_fd_shift : Int → Int} {F_fd_pull : Int → Int} {F_fd_underlay : Int → Int} {F_fd_drawn : Int → Int} {F_pt_xs : Int → Int → Int} {F_pt_ys : Int → Int → Int} {F_pt_size : Int → Int} {pl_kinds : Int → Int} {pl_differencesX : Int → Int} {pl_differencesY : Int → Int} {pl_owners : Int → Int} {pl_kindCounts : Int → Int} {pl_threads : Int → Int} {pl_size : Int} {pl_seconds : UInt32} {pl_needleX : Int} {pl_needleY : Int} {pl_colour : Int} {mo_fields : Int} {mo_colour : Int → Int} {mo_layer : Int → Int} {mo_isColumn : Int → Int} {mo_corners : Int → Int} {mo_cornerX : Int → Int} {mo_cornerY : Int → Int} {mo_density : Int → Int} {mo_longest : Int → Int} {mo_shift : Int → Int} {mo_pull : Int → Int} {mo_hasUnderlay : Int → Int} {mo_bound : Int} {mo_pointX : Int → Int} {mo_pointY : Int → Int} {mo_points : Int} {mo_crossing : Int → Int} {mo_crossings : Int} {mo_isKnown : Int} {mo_commands : Int} {mo_kind : Int → Int} {mo_byX : Int → Int} {mo_byY : Int → Int} {mo_fieldOf : Int → Int} {mo_needleX : Int} {mo_needleY : Int} {mo_isSewn : Int → Int} {mo_hasFile : Int} {mo_format : Int} {mo_length : Int} {mo_heads : Int} {mo_late : Int} {mo_ran : Int} {mo_program : Int} {mo_thrown : Int} {mo_rowY : Int} {mo_stitches : Int} {lw_out : Int} {R_sp_waiting : Int → Int} {R_sp_planned : Int} {R_F_fd_crossings : Int → Int → Int} {R_F_fd_crossingCount : Int → Int} {R_F_fd_drawn : Int → Int} {R_F_pt_xs : Int → Int → Int} {R_F_pt_ys : Int → Int → Int} {R_F_pt_size : Int → Int} {R_pl_kinds : Int → Int} {R_pl_differencesX : Int → Int} {R_pl_differencesY : Int → Int} {R_pl_owners : Int → Int} {R_pl_kindCounts : Int → Int} {R_pl_threads : Int → Int} {R_pl_size : Int} {R_pl_seconds : UInt32} {R_pl_needleX : Int} {R_pl_needleY : Int} {R_pl_colour : Int} {R_mo_pointX : Int → Int} {R_mo_pointY : Int → Int} {R_mo_points : Int} {R_mo_crossing : Int → Int} {R_mo_crossings : Int} {R_mo_isKnown : Int} {R_mo_commands : Int} {R_mo_kind : Int → Int} {R_mo_byX : Int → Int} {R_mo_byY : Int → Int} {R_mo_fieldOf : Int → Int} {R_mo_needleX : Int} {R_mo_needleY : Int} {R_mo_isSewn : Int → Int} {R_mo_thrown : Int} {R_mo_rowY : Int} {R_lw_out : Int} (h_sp : σ0 0 = oC_sp ad sp_fieldCount sp_trimBound sp_planned) (h_sp_fields : σ0 1 = .inl (cF, 8, .inr (.inr (.inr (.inr (zFA ad nF)))))) (h_sp_waiting : σ0 2 = .inl (cZ, 8, .inl (zA sp_waiting))) (h_pl : σ0 3 = oC_pl ad pl_size pl_seconds pl_needleX pl_needleY pl_colour) (h_pl_kinds : σ0 4 = .inl (cI, 16641, .inl (zA pl_kinds))) (h_pl_differencesX : σ0 5 = .inl (cI, 16641, .inl (zA pl_differencesX))) (h_pl_differencesY : σ0 6 = .inl (cI, 16641, .inl (zA pl_differencesY))) (h_pl_owners : σ0 7 = .inl (cI, 16641, .inl (zA pl_owners))) (h_pl_kindCounts : σ0 8 = .inl (cI, 5, .inl (zA pl_kindCounts))) (h_pl_threads : σ0 9 = .inl (cI, 6, .inl (zA pl_threads))) (h_mo : σ0 19 = oC_mo ad mo_fields mo_bound mo_points mo_crossings mo_isKnown mo_commands mo_needleX mo_needleY mo_hasFile mo_format mo_length mo_heads mo_late mo_ran mo_program mo_thrown mo_rowY mo_stitches) (h_mo_colour : σ0 20 = .inl (cI, 8, .inl (zA mo_colour))) (h_mo_layer : σ0 21 = .inl (cI, 8, .inl (zA mo_layer))) (h_mo_isColumn : σ0 22 = .inl (cZ, 8, .inl (zA mo_isColumn))) (h_mo_corners : σ0 23 = .inl (cI, 8, .inl (zA mo_corners))) (h_mo_cornerX : σ0 24 = .inl (cI, 64, .inl (zA mo_cornerX))) (h_mo_cornerY : σ0 25 = .inl (cI, 64, .inl (zA mo_cornerY))) (h_mo_density : σ0 26 = .inl (cI, 8, .inl (zA mo_density))) (h_mo_longest : σ0 27 = .inl (cI, 8, .inl (zA mo_longest))) (h_mo_shift : σ0 28 = .inl (cI, 8, .inl (zA mo_shift))) (h_mo_pull : σ0 29 = .inl (cI, 8, .inl (zA mo_pull))) (h_mo_hasUnderlay : σ0 30 = .inl (cZ, 8, .inl (zA mo_hasUnderlay))) (h_mo_pointX : σ0 31 = .inl (cI, 4096, .inl (zA mo_pointX))) (h_mo_pointY : σ0 32 = .inl (cI, 4096, .inl (zA mo_pointY))) (h_mo_crossing : σ0 33 = .inl (cI, 8, .inl (zA mo_crossing))) (h_mo_kind : σ0 34 = .inl (cI, 20000, .inl (zA mo_kind))) (h_mo_byX : σ0 35 = .inl (cI, 20000, .inl (zA mo_byX))) (h_mo_byY : σ0 36 = .inl (cI, 20000, .inl (zA mo_byY))) (h_mo_fieldOf : σ0 37 = .inl (cI, 20000, .inl (zA mo_fieldOf))) (h_mo_isSewn : σ0 38 = .inl (cZ, 8, .inl (zA mo_isSewn))) (h_lw_out : zO cL σ0 lw_out) (h_FF : zFF ad cI nF σ0 F_fd_colour F_fd_layer F_fd_column F_fd_cornerXs F_fd_cornerYs F_fd_crossings F_fd_cornerCount F_fd_crossingCount F_fd_density F_fd_length F_fd_shift F_fd_pull F_fd_underlay F_fd_drawn F_pt_xs F_pt_ys F_pt_size) {ii : Int} (hiL : 0 ≤ ii ∧ ii + 7 ≤ L) {w1 : Int} (hw1 : xs (ii.toNat + 1) = zI w1) (hR1 : zR w1) (hcs : cells + 9 ≤ 83562 ∧ slots + 4300 ≤ 8845420) {ls : Array Slot} (hl : lv_has ls 10 [(0, .ref b), (1, .ref (ad 0)), (2, .ref (ad 19)), (3, .ref (ad 44)), (4, .ref (ad 45)), (5, .int (zI ii))]) (hf : f_law_count sp_waiting sp_trimBound sp_planned F_fd_colour F_fd_layer F_fd_column F_fd_cornerXs F_fd_cornerYs F_fd_crossings F_fd_cornerCount F_fd_crossingCount F_fd_density F_fd_length F_fd_shift F_fd_pull F_fd_underlay F_fd_drawn F_pt_xs F_pt_ys F_pt_size pl_kinds pl_differencesX pl_differencesY pl_owners pl_kindCounts pl_threads pl_size pl_seconds pl_needleX pl_needleY pl_colour mo_fields mo_colour mo_layer mo_isColumn mo_corners mo_cornerX mo_cornerY mo_density mo_longest mo_shift mo_pull mo_hasUnderlay mo_bound mo_pointX mo_pointY mo_points mo_crossing mo_crossings mo_isKnown mo_commands mo_kind mo_byX mo_byY mo_fieldOf mo_needleX mo_needleY mo_isSewn mo_thrown mo_rowY lw_out nF w1 = some (R_sp_waiting, R_sp_planned, R_F_fd_crossings, R_F_fd_crossingCount, R_F_fd_drawn, R_F_pt_xs, R_F_pt_ys, R_F_pt_size, R_pl_kinds, R_pl_differencesX, R_pl_differencesY, R_pl_owners, R_pl_kindCounts, R_pl_threads, R_pl_size, R_pl_seconds, R_pl_needleX, R_pl_needleY, R_pl_colour, R_mo_pointX, R_mo_pointY, R_mo_points, R_mo_crossing, R_mo_crossings, R_mo_isKnown, R_mo_commands, R_mo_kind, R_mo_byX, R_mo_byY, R_mo_fieldOf, R_mo_needleX, R_mo_needleY, R_mo_isSewn, R_mo_thrown, R_mo_rowY, R_lw_out))
    (kk : ∀ (σ : Nat → va_E) (H : Heap) (locs : List Loc) (cells1 slots1 : Nat), cells1 ≤ cells + 9 → slots1 ≤ slots + 4300 → zH D ad N A s.heap σ H locs → ∀ (h_sp : σ 0 = oC_sp ad sp_fieldCount sp_trimBound R_sp_planned) (h_sp_waiting : σ 2 = .inl (cZ, 8, .inl (zA R_sp_waiting))) (h_pl : σ 3 = oC_pl ad R_pl_size R_pl_seconds R_pl_needleX R_pl_needleY R_pl_colour) (h_pl_kinds : σ 4 = .inl (cI, 16641, .inl (zA R_pl_kinds))) (h_pl_differencesX : σ 5 = .inl (cI, 16641, .inl (zA R_pl_differencesX))) (h_pl_differencesY : σ 6 = .inl (cI, 16641, .inl (zA R_pl_differencesY))) (h_pl_owners : σ 7 = .inl (cI, 16641, .inl (zA R_pl_owners))) (h_pl_kindCounts : σ 8 = .inl (cI, 5, .inl (zA R_pl_kindCounts))) (h_pl_threads : σ 9 = .inl (cI, 6, .inl (zA R_pl_threads))) (h_mo : σ 19 = oC_mo ad mo_fields mo_bound R_mo_points R_mo_crossings R_mo_isKnown R_mo_commands R_mo_needleX R_mo_needleY mo_hasFile mo_format mo_length mo_heads mo_late mo_ran mo_program R_mo_thrown R_mo_rowY mo_stitches) (h_mo_pointX : σ 31 = .inl (cI, 4096, .inl (zA R_mo_pointX))) (h_mo_pointY : σ 32 = .inl (cI, 4096, .inl (zA R_mo_pointY))) (h_mo_crossing : σ 33 = .inl (cI, 8, .inl (zA R_mo_crossing))) (h_mo_kind : σ 34 = .inl (cI, 20000, .inl (zA R_mo_kind))) (h_mo_byX : σ 35 = .inl (cI, 20000, .inl (zA R_mo_byX))) (h_mo_byY : σ 36 = .inl (cI, 20000, .inl (zA R_mo_byY))) (h_mo_fieldOf : σ 37 = .inl (cI, 20000, .inl (zA R_mo_fieldOf))) (h_mo_isSewn : σ 38 = .inl (cZ, 8, .inl (zA R_mo_isSewn))) (h_lw_out : zO cL σ R_lw_out) (h_FF : zFF ad cI nF σ F_fd_colour F_fd_layer F_fd_column F_fd_cornerXs F_fd_cornerYs R_F_fd_crossings F_fd_cornerCount R_F_fd_crossingCount F_fd_density F_fd_length F_fd_shift F_fd_pull F_fd_underlay R_F_fd_drawn R_F_pt_xs R_F_pt_ys R_F_pt_size), ∀ (hbg : ∀ i : Nat, i < 46 → i ≠ 0 → i ≠ 2 → i ≠ 3 → i ≠ 4 → i ≠ 5 → i ≠ 6 → i ≠ 7 → i ≠ 8 → i ≠ 9 → i ≠ 19 → i ≠ 31 → i ≠ 32 → i ≠ 33 → i ≠ 34 → i ≠ 35 → i ≠ 36 → i ≠ 37 → i ≠ 38 → i ≠ 44 → σ i = σ0 i) (ls : Array Slot), lv_has ls 10 [(0, .ref b), (1, .ref (ad 0)), (2, .ref (ad 19)), (3, .ref (ad 44)), (4, .ref (ad 45)), (5, .int (zI ii))] → W p l e room_1 s m args below meth c H locs cells1 slots1 Q (F0 m 1430 ls [])) : W p l e room_1 s m args below meth c H locs cells slots Q (F0 m 627 ls []) := by
  have hI := zD_inj hH.2.1
  have g_c : cells ≤ 83562 := by omega
  have g_s : slots ≤ 8845420 := by omega
  have hk_out : 44 < N := by omega
  have hk_outD : 45 < N := by omega
  have hk_sp : 0 < N := by omega
  have hk_sp_fields : 1 < N := by omega
  have hk_sp_waiting : 2 < N := by omega
  have hk_pl : 3 < N := by omega
  have hk_pl_kinds : 4 < N := by omega
  have hk_pl_differencesX : 5 < N := by omega
  have hk_pl_differencesY : 6 < N := by omega
  have hk_pl_owners : 7 < N := by omega
  have hk_pl_kindCounts : 8 < N := by omega
  have hk_pl_threads : 9 < N := by omega
  have hk_mo : 19 < N := by omega
  have hk_mo_colour : 20 < N := by omega
  have hk_mo_layer : 21 < N := by omega
  have hk_mo_isColumn : 22 < N := by omega
  have hk_mo_corners : 23 < N := by omega
  have hk_mo_cornerX : 24 < N := by omega
  have hk_mo_cornerY : 25 < N := by omega
  have hk_mo_density : 26 < N := by omega
  have hk_mo_longest : 27 < N := by omega
  have hk_mo_shift : 28 < N := by omega
  have hk_mo_pull : 29 < N := by omega
  have hk_mo_hasUnderlay : 30 < N := by omega
  have hk_mo_pointX : 31 < N := by omega
  have hk_mo_pointY : 32 < N := by omega
  have hk_mo_crossing : 33 < N := by omega
  have hk_mo_kind : 34 < N := by omega
  have hk_mo_byX : 35 < N := by omega
  have hk_mo_byY : 36 < N := by omega
  have hk_mo_fieldOf : 37 < N := by omega
  have hk_mo_isSewn : 38 < N := by omega
  have hbg : ∀ i : Nat, i < 46 → i ≠ 0 → i ≠ 2 → i ≠ 3 → i ≠ 4 → i ≠ 5 → i ≠ 6 → i ≠ 7 → i ≠ 8 → i ≠ 9 → i ≠ 19 → i ≠ 31 → i ≠ 32 → i ≠ 33 → i ≠ 34 → i ≠ 35 → i ≠ 36 → i ≠ 37 → i ≠ 38 → i ≠ 44 → σ0 i = σ0 i := fun _ _ _ _ _ _ _ _ _ _ _ _ _ _ _ _ _ _ _ _ _ => rfl
  unfold f_law_count at hf
  refine lv_aload_n hx hb dL_law_627 rfl (lv_at hl 1 rfl) ?_
  refine lv_aload_n hx hb dL_law_628 rfl (lv_at hl 0 rfl) ?_
  refine lv_iload hx hb dL_law_629 (lv_at hl 5 rfl) ?_
  refine lv_iconst (v := zI 1) hx hb dL_law_631 (by decide +kernel) ?_
  refine lz_iadd hx hb dL_law_632 ?_
  refine lz_sld hx hb hX0 hbl hbA hH.2.2 hiL hL 1 (by decide) hw1 dL_law_633 ?_
  refine lv_aload_n hx hb dL_law_634 rfl (lv_at hl 3 rfl) ?_
  obtain ⟨r1, u2, u3, u4, u5, u6, u7, u8, u9, u10, u11, u12, u13, u14, u15, u16, u17, u18, u19, u20, u21, k22, hf⟩ := zb21_some hf
  refine zcH (As := [.ref (ad 0), .int (zI w1), .ref (ad 44)]) (rest := []) hx hb hml hown hts hl.1 hK hH hA (hXs.kept hH.2.2.2.1) hNc (c_L_count (zD_inj hH.2.1) hN hNF hst h_sp h_sp_fields h_sp_waiting h_pl h_pl_kinds h_pl_differencesX h_pl_differencesY h_pl_owners h_pl_kindCounts h_pl_threads h_FF h_lw_out k22) zk_t3_150 zk_t3_151 zk_t1_0 zk_t3_152 hd_L_count rfl ⟨rfl, rfl, Nat.le_of_ble_eq_true rfl, Nat.le_of_ble_eq_true rfl⟩ ⟨by show _ ≤ 83562; omega, by show _ ≤ 8845420; omega⟩ rfl (Nat.le_of_ble_eq_true rfl) dL_law_635 (fun q24 σ23 Hσ23 lσ23 hp hH => ?_)
  obtain ⟨hr1, h_sp, h_sp_waiting, h_pl, h_pl_kinds, h_pl_differencesX, h_pl_differencesY, h_pl_owners, h_pl_kindCounts, h_pl_threads, h_FF, h_lw_out, hn⟩ := hp
  subst hr1
  have h_sp_fields := (hn 1 (by decide) (by decide) (by decide) (by decide) (by decide) (by decide) (by decide) (by decide) (by decide) (by decide) (by decide)).trans h_sp_fields
  have h_mo := (hn 19 (by decide) (by decide) (by decide) (by decide) (by decide) (by decide) (by decide) (by decide) (by decide) (by decide) (by decide)).trans h_mo
  have h_mo_colour := (hn 20 (by decide) (by decide) (by decide) (by decide) (by decide) (by decide) (by decide) (by decide) (by decide) (by decide) (by decide)).trans h_mo_colour
  have h_mo_layer := (hn 21 (by decide) (by decide) (by decide) (by decide) (by decide) (by decide) (by decide) (by decide) (by decide) (by decide) (by decide)).trans h_mo_layer
  have h_mo_isColumn := (hn 22 (by decide) (by decide) (by decide) (by decide) (by decide) (by decide) (by decide) (by decide) (by decide) (by decide) (by decide)).trans h_mo_isColumn
  have h_mo_corners := (hn 23 (by decide) (by decide) (by decide) (by decide) (by decide) (by decide) (by decide) (by decide) (by decide) (by decide) (by decide)).trans h_mo_corners
  have h_mo_cornerX := (hn 24 (by decide) (by decide) (by decide) (by decide) (by decide) (by decide) (by decide) (by decide) (by decide) (by decide) (by decide)).trans h_mo_cornerX
  have h_mo_cornerY := (hn 25 (by decide) (by decide) (by decide) (by decide) (by decide) (by decide) (by decide) (by decide) (by decide) (by decide) (by decide)).trans h_mo_cornerY
  have h_mo_density := (hn 26 (by decide) (by decide) (by decide) (by decide) (by decide) (by decide) (by decide) (by decide) (by decide) (by decide) (by decide)).trans h_mo_density
  have h_mo_longest := (hn 27 (by decide) (by decide) (by decide) (by decide) (by decide) (by decide) (by decide) (by decide) (by decide) (by decide) (by decide)).trans h_mo_longest
  have h_mo_shift := (hn 28 (by decide) (by decide) (by decide) (by decide) (by decide) (by decide) (by decide) (by decide) (by decide) (by decide) (by decide)).trans h_mo_shift
  have h_mo_pull := (hn 29 (by decide) (by decide) (by decide) (by decide) (by decide) (by decide) (by decide) (by decide) (by decide) (by decide) (by decide)).trans h_mo_pull
  have h_mo_hasUnderlay := (hn 30 (by decide) (by decide) (by decide) (by decide) (by decide) (by decide) (by decide) (by decide) (by decide) (by decide) (by decide)).trans h_mo_hasUnderlay
  have h_mo_pointX := (hn 31 (by decide) (by decide) (by decide) (by decide) (by decide) (by decide) (by decide) (by decide) (by decide) (by decide) (by decide)).trans h_mo_pointX
  have h_mo_pointY := (hn 32 (by decide) (by decide) (by decide) (by decide) (by decide) (by decide) (by decide) (by decide) (by decide) (by decide) (by decide)).trans h_mo_pointY
  have h_mo_crossing := (hn 33 (by decide) (by decide) (by decide) (by decide) (by decide) (by decide) (by decide) (by decide) (by decide) (by decide) (by decide)).trans h_mo_crossing
  have h_mo_kind := (hn 34 (by decide) (by decide) (by decide) (by decide) (by decide) (by decide) (by decide) (by decide) (by decide) (by decide) (by decide)).trans h_mo_kind
  have h_mo_byX := (hn 35 (by decide) (by decide) (by decide) (by decide) (by decide) (by decide) (by decide) (by decide) (by decide) (by decide) (by decide)).trans h_mo_byX
  have h_mo_byY := (hn 36 (by decide) (by decide) (by decide) (by decide) (by decide) (by decide) (by decide) (by decide) (by decide) (by decide) (by decide)).trans h_mo_byY
  have h_mo_fieldOf := (hn 37 (by decide) (by decide) (by decide) (by decide) (by decide) (by decide) (by decide) (by decide) (by decide) (by decide) (by decide)).trans h_mo_fieldOf
  have h_mo_isSewn := (hn 38 (by decide) (by decide) (by decide) (by decide) (by decide) (by decide) (by decide) (by decide) (by decide) (by decide) (by decide)).trans h_mo_isSewn
  have hbg : ∀ i : Nat, i < 46 → i ≠ 0 → i ≠ 2 → i ≠ 3 → i ≠ 4 → i ≠ 5 → i ≠ 6 → i ≠ 7 → i ≠ 8 → i ≠ 9 → i ≠ 19 → i ≠ 31 → i ≠ 32 → i ≠ 33 → i ≠ 34 → i ≠ 35 → i ≠ 36 → i ≠ 37 → i ≠ 38 → i ≠ 44 → σ23 i = σ0 i := fun i h46 a0 a1 a2 a3 a4 a5 a6 a7 a8 a9 a10 a11 a12 a13 a14 a15 a16 a17 a18 => (hn i h46 a0 a1 a2 a3 a4 a5 a6 a7 a8 a18).trans (hbg i h46 a0 a1 a2 a3 a4 a5 a6 a7 a8 a9 a10 a11 a12 a13 a14 a15 a16 a17 a18)
  have g_c : cells + 1 ≤ 83562 := by omega
  have g_s : slots + 6 ≤ 8845420 := by omega
  refine lv_istore (lv' := [(6, .int (zI r1)), (0, .ref b), (1, .ref (ad 0)), (2, .ref (ad 19)), (3, .ref (ad 44)), (4, .ref (ad 45)), (5, .int (zI ii))]) hx hb dL_law_638 hl (by decide) rfl (fun ls hl => ?_)
  refine lv_aload_n hx hb dL_law_640 rfl (lv_at hl 3 rfl) ?_
  refine lv_aload_n hx hb dL_law_641 rfl (lv_at hl 1 rfl) ?_
  refine lv_iload hx hb dL_law_642 (lv_at hl 6 rfl) ?_
  refine lv_iconst (v := zI 1) hx hb dL_law_644 (by decide +kernel) ?_
  refine lz_iadd hx hb dL_law_645 ?_
  refine lz_sld hx hb hX0 hbl hbA hH.2.2 hiL hL 1 (by decide) hw1 dL_law_646 ?_
  obtain ⟨r25, a26, a27, u28, a29, u30, u31, u32, a33, a34, a35, a36, u37, u38, a39, u40, u41, k42, hf⟩ := zb17_some hf
  refine zcVi (C := RX7) (As := [.int (zI w1)]) (rest := []) hx hb hml hown hts hl.1 hK hH hA (c_X7_count hI hN  h_mo h_mo_colour h_mo_layer h_mo_isColumn h_mo_corners h_mo_cornerX h_mo_cornerY h_mo_density h_mo_longest h_mo_shift h_mo_pull h_mo_hasUnderlay h_mo_pointX h_mo_pointY h_mo_crossing h_mo_kind h_mo_byX h_mo_byY h_mo_fieldOf h_mo_isSewn k42) zk_t5_107 zk_t5_108 zk_t5_109 zk_t1_6 zk_t5_110 hd_X7_count rfl ⟨rfl, rfl, Nat.le_of_ble_eq_true rfl, Nat.le_of_ble_eq_true rfl⟩ ⟨g_c, g_s⟩ hk_mo h_mo rfl rfl rfl (Nat.le_of_ble_eq_true rfl) dL_law_647 (fun q44 σ43 Hσ43 lσ43 hp hH => ?_)
  obtain ⟨hr1, h_mo, h_mo_pointX, h_mo_pointY, h_mo_crossing, h_mo_kind, h_mo_byX, h_mo_byY, h_mo_fieldOf, h_mo_isSewn, hn⟩ := hp
  replace hr1 := hr1.symm; subst hr1
  have h_sp := (hn 0 (by decide) (by decide) (by decide) (by decide) (by decide) (by decide) (by decide) (by decide) (by decide)).trans h_sp
  have h_sp_fields := (hn 1 (by decide) (by decide) (by decide) (by decide) (by decide) (by decide) (by decide) (by decide) (by decide)).trans h_sp_fields
  have h_sp_waiting := (hn 2 (by decide) (by decide) (by decide) (by decide) (by decide) (by decide) (by decide) (by decide) (by decide)).trans h_sp_waiting
  have h_pl := (hn 3 (by decide) (by decide) (by decide) (by decide) (by decide) (by decide) (by decide) (by decide) (by decide)).trans h_pl
  have h_pl_kinds := (hn 4 (by decide) (by decide) (by decide) (by decide) (by decide) (by decide) (by decide) (by decide) (by decide)).trans h_pl_kinds
  have h_pl_differencesX := (hn 5 (by decide) (by decide) (by decide) (by decide) (by decide) (by decide) (by decide) (by decide) (by decide)).trans h_pl_differencesX
  have h_pl_differencesY := (hn 6 (by decide) (by decide) (by decide) (by decide) (by decide) (by decide) (by decide) (by decide) (by decide)).trans h_pl_differencesY
  have h_pl_owners := (hn 7 (by decide) (by decide) (by decide) (by decide) (by decide) (by decide) (by decide) (by decide) (by decide)).trans h_pl_owners
  have h_pl_kindCounts := (hn 8 (by decide) (by decide) (by decide) (by decide) (by decide) (by decide) (by decide) (by decide) (by decide)).trans h_pl_kindCounts
  have h_pl_threads := (hn 9 (by decide) (by decide) (by decide) (by decide) (by decide) (by decide) (by decide) (by decide) (by decide)).trans h_pl_threads
  have h_mo_colour := (hn 20 (by decide) (by decide) (by decide) (by decide) (by decide) (by decide) (by decide) (by decide) (by decide)).trans h_mo_colour
  have h_mo_layer := (hn 21 (by decide) (by decide) (by decide) (by decide) (by decide) (by decide) (by decide) (by decide) (by decide)).trans h_mo_layer
  have h_mo_isColumn := (hn 22 (by decide) (by decide) (by decide) (by decide) (by decide) (by decide) (by decide) (by decide) (by decide)).trans h_mo_isColumn
  have h_mo_corners := (hn 23 (by decide) (by decide) (by decide) (by decide) (by decide) (by decide) (by decide) (by decide) (by decide)).trans h_mo_corners
  have h_mo_cornerX := (hn 24 (by decide) (by decide) (by decide) (by decide) (by decide) (by decide) (by decide) (by decide) (by decide)).trans h_mo_cornerX
  have h_mo_cornerY := (hn 25 (by decide) (by decide) (by decide) (by decide) (by decide) (by decide) (by decide) (by decide) (by decide)).trans h_mo_cornerY
  have h_mo_density := (hn 26 (by decide) (by decide) (by decide) (by decide) (by decide) (by decide) (by decide) (by decide) (by decide)).trans h_mo_density
  have h_mo_longest := (hn 27 (by decide) (by decide) (by decide) (by decide) (by decide) (by decide) (by decide) (by decide) (by decide)).trans h_mo_longest
  have h_mo_shift := (hn 28 (by decide) (by decide) (by decide) (by decide) (by decide) (by decide) (by decide) (by decide) (by decide)).trans h_mo_shift
  have h_mo_pull := (hn 29 (by decide) (by decide) (by decide) (by decide) (by decide) (by decide) (by decide) (by decide) (by decide)).trans h_mo_pull
  have h_mo_hasUnderlay := (hn 30 (by decide) (by decide) (by decide) (by decide) (by decide) (by decide) (by decide) (by decide) (by decide)).trans h_mo_hasUnderlay
  have h_FF := zFF_keep (fun i hi => hn i (by omega) (by omega) (by omega) (by omega) (by omega) (by omega) (by omega) (by omega) (by omega)) h_FF
  have hbg : ∀ i : Nat, i < 46 → i ≠ 0 → i ≠ 2 → i ≠ 3 → i ≠ 4 → i ≠ 5 → i ≠ 6 → i ≠ 7 → i ≠ 8 → i ≠ 9 → i ≠ 19 → i ≠ 31 → i ≠ 32 → i ≠ 33 → i ≠ 34 → i ≠ 35 → i ≠ 36 → i ≠ 37 → i ≠ 38 → i ≠ 44 → σ43 i = σ0 i := fun i h46 a0 a1 a2 a3 a4 a5 a6 a7 a8 a9 a10 a11 a12 a13 a14 a15 a16 a17 a18 => (hn i a9 a10 a11 a12 a13 a14 a15 a16 a17).trans (hbg i h46 a0 a1 a2 a3 a4 a5 a6 a7 a8 a9 a10 a11 a12 a13 a14 a15 a16 a17 a18)
  have h_lw_out := zO_keep h_lw_out (hn 44 (by decide) (by decide) (by decide) (by decide) (by decide) (by decide) (by decide) (by decide) (by decide))
  refine lv_istore (lv' := [(7, .int (zI r25)), (6, .int (zI r1)), (0, .ref b), (1, .ref (ad 0)), (2, .ref (ad 19)), (3, .ref (ad 44)), (4, .ref (ad 45)), (5, .int (zI ii))]) hx hb dL_law_650 hl (by decide) rfl (fun ls hl => ?_)
  refine lv_aload_n hx hb dL_law_652 rfl (lv_at hl 4 rfl) ?_
  obtain ⟨r45, k46, hf⟩ := zb1_some hf
  refine zcVi (C := RX7) (As := []) (rest := []) hx hb hml hown hts hl.1 hK hH hA (c_X7_thrown hI hN  h_mo k46) zk_t5_0 zk_t5_1 zk_t5_2 zk_t1_6 zk_t5_3 hd_X7_thrown rfl ⟨rfl, rfl, Nat.le_of_ble_eq_true rfl, Nat.le_of_ble_eq_true rfl⟩ ⟨g_c, g_s⟩ hk_mo h_mo rfl rfl rfl (Nat.le_of_ble_eq_true rfl) dL_law_653 (fun q48 σ47 Hσ47 lσ47 hp hH => ?_)
  obtain ⟨hr1, hs1⟩ := hp; replace hr1 := hr1.symm; subst hr1; rw [hs1] at hH
  refine lv_iload hx hb dL_law_656 (lv_at hl 1 rfl) ?_
  obtain ⟨k49, hf⟩ := zck_some hf
  refine lz_icmp_eq (tgt := 663) hx hb k49 dL_law_658 (by decide) (fun c50 => ?_) (fun c50 => ?_)
  · replace hf := (if_pos c50).symm.trans hf
    refine lv_iload hx hb dL_law_663 (lv_at hl 1 rfl) ?_
    obtain ⟨k51, hf⟩ := zck_some hf
    refine lz_if_ne (tgt := 680) hx hb k51 dL_law_665 (by decide) (fun c52 => ?_) (fun c52 => ?_)
    · replace hf := (if_neg c52).symm.trans hf
      refine lv_goto (tgt := 1430) hx hb dL_law_680 (by decide) ?_
      cases hf
      exact kk _ _ _ _ _ (by omega) (by omega) hH h_sp h_sp_waiting h_pl h_pl_kinds h_pl_differencesX h_pl_differencesY h_pl_owners h_pl_kindCounts h_pl_threads h_mo h_mo_pointX h_mo_pointY h_mo_crossing h_mo_kind h_mo_byX h_mo_byY h_mo_fieldOf h_mo_isSewn h_lw_out h_FF hbg _ (lv_sub hl [2, 3, 4, 5, 6, 7] rfl)
    · replace hf := (if_pos c52).symm.trans hf
      refine lv_aload_n hx hb dL_law_668 rfl (lv_at hl 5 rfl) ?_
      refine lv_iconst (v := zI 0) hx hb dL_law_669 (by decide +kernel) ?_
      refine zlald hx hb hK hH hk_out h_lw_out rfl dL_law_670 ?_
      refine lv_iload hx hb dL_law_671 (lv_at hl 0 rfl) ?_
      refine lv_i2l hx hb dL_law_673 rfl ?_
      obtain ⟨k53, hf⟩ := zck_some hf
      refine lz_lcmpeq (tgt := 680) hx hb k53 dL_law_674 dL_law_675 (by decide) (fun c54 => ?_) (fun c54 => ?_)
      · replace hf := (if_pos c54).symm.trans hf
        refine lv_goto (tgt := 1430) hx hb dL_law_680 (by decide) ?_
        cases hf
        exact kk _ _ _ _ _ (by omega) (by omega) hH h_sp h_sp_waiting h_pl h_pl_kinds h_pl_differencesX h_pl_differencesY h_pl_owners h_pl_kindCounts h_pl_threads h_mo h_mo_pointX h_mo_pointY h_mo_crossing h_mo_kind h_mo_byX h_mo_byY h_mo_fieldOf h_mo_isSewn h_lw_out h_FF hbg _ (lv_sub hl [2, 3, 4, 5, 6, 7] rfl)
      · replace hf := (if_neg c54).symm.trans hf
        refine lv_iconst (v := zI 0) hx hb dL_law_678 (by decide +kernel) ?_
        cases hf
  · replace hf := (if_neg c50).symm.trans hf
    refine lv_iconst (v := zI 0) hx hb dL_law_661 (by decide +kernel) ?_
    cases hf
def f_law_time (sp_waiting : Int → Int) (sp_trimBound : Int) (sp_planned : Int) (F_fd_colour : Int → Int) (F_fd_layer : Int → Int) (F_fd_column : Int → Int) (F_fd_cornerXs : Int → Int → Int) (F_fd_cornerYs : Int → Int → Int) (F_fd_crossings : Int → Int → Int) (F_fd_cornerCount : Int → Int) (F_fd_crossingCount : Int → Int) (F_fd_density : Int → Int) (F_fd_length : Int → Int) (F_fd_shift : Int → Int) (F_fd_pull : Int → Int) (F_fd_underlay : Int → Int) (F_fd_drawn : Int → Int) (F_pt_xs : Int → Int → Int) (F_pt_ys : Int → Int → Int) (F_pt_size : Int → Int) (pl_kinds : Int → Int) (pl_differencesX : Int → Int) (pl_differencesY : Int → Int) (pl_owners : Int → Int) (pl_kindCounts : Int → Int) (pl_threads : Int → Int) (pl_size : Int) (pl_seconds : UInt32) (pl_needleX : Int) (pl_needleY : Int) (pl_colour : Int) (mo_fields : Int) (mo_colour : Int → Int) (mo_layer : Int → Int) (mo_isColumn : Int → Int) (mo_corners : Int → Int) (mo_cornerX : Int → Int) (mo_cornerY : Int → Int) (mo_density : Int → Int) (mo_longest : Int → Int) (mo_shift : Int → Int) (mo_pull : Int → Int) (mo_hasUnderlay : Int → Int) (mo_bound : Int) (mo_pointX : Int → Int) (mo_pointY : Int → Int) (mo_points : Int) (mo_crossing : Int → Int) (mo_crossings : Int) (mo_isKnown : Int) (mo_commands : Int) (mo_kind : Int → Int) (mo_byX : Int → Int) (mo_byY : Int → Int) (mo_fieldOf : Int → Int) (mo_needleX : Int) (mo_needleY : Int) (mo_isSewn : Int → Int) (mo_thrown : Int) (mo_rowY : Int) (nF : Int) : Option ((Int → Int) × Int × (Int → Int → Int) × (Int → Int) × (Int → Int) × (Int → Int → Int) × (Int → Int → Int) × (Int → Int) × (Int → Int) × (Int → Int) × (Int → Int) × (Int → Int) × (Int → Int) × (Int → Int) × Int × UInt32 × Int × Int × Int × (Int → Int) × (Int → Int) × Int × (Int → Int) × Int × Int × Int × (Int → Int) × (Int → Int) × (Int → Int) × (Int → Int) × Int × Int × (Int → Int) × Int × Int) :=
  zb20 (f_X6_time sp_waiting sp_trimBound sp_planned F_fd_colour F_fd_layer F_fd_column F_fd_cornerXs F_fd_cornerYs F_fd_crossings F_fd_cornerCount F_fd_crossingCount F_fd_density F_fd_length F_fd_shift F_fd_pull F_fd_underlay F_fd_drawn F_pt_xs F_pt_ys F_pt_size pl_kinds pl_differencesX pl_differencesY pl_owners pl_kindCounts pl_threads pl_size pl_seconds pl_needleX pl_needleY pl_colour nF) fun r1 a2 u3 u4 u5 u6 u7 u8 u9 a10 a11 a12 a13 a14 a15 u16 u17 u18 u19 u20 =>
  zck (zn64 (FP.f2d r1)) <|
  zb17 (f_X7_time mo_fields mo_colour mo_layer mo_isColumn mo_corners mo_cornerX mo_cornerY mo_density mo_longest mo_shift mo_pull mo_hasUnderlay mo_bound mo_pointX mo_pointY mo_points mo_crossing mo_crossings mo_isKnown mo_commands mo_kind mo_byX mo_byY mo_fieldOf mo_needleX mo_needleY mo_isSewn mo_thrown mo_rowY) fun r25 a26 a27 u28 a29 u30 u31 u32 a33 a34 a35 a36 u37 u38 a39 u40 u41 =>
  zck (zn64 (FP.f2d r25)) <|
  zck ((FP.f2d r25) = (FP.f2d r1) ∧ zcd (FP.f2d r1) = 0) <|
  some (a2, u3, u4, u5, u6, u7, u8, u9, a10, a11, a12, a13, a14, a15, u16, u17, u18, u19, u20, a26, a27, u28, a29, u30, u31, u32, a33, a34, a35, a36, u37, u38, a39, u40, u41)
set_option maxHeartbeats 4000000 in
set_option maxRecDepth 100000 in
theorem w_law_time {p : Program} {l : Launch} {e : Env} {s : State} {m : MethodId} {args : Array Value} {below : List Frame} {meth : Method} {c : Code} {Q : State → Prop} {D : va_G} {cI cZ cF cL cD : ClassId} {b L : Nat} {xs : Nat → Int32} {A : Nat → Prop} (hx : p.tables.exec = Jvm.exec) (hb : c.code = code) (hml : c.maxLocals = 10) (hown : s.vm.findClass RL = some m.cls) (hts : ∀ w ∈ wsL_law, w.before args s = true) (hst : l.stackTraces = false) (hNc : zNc s) (hX0 : va_X b L xs s s.heap) (hbl : b < s.heap.size) (hbA : ¬ A b) (hA : ∀ q, s.heap.size ≤ q → A q) (hK : zK D (zT cI cZ cF cL cD) s) (hXs : zXs A s s.heap) (hL : L ≤ 3584)
    {ad : Nat → Nat} {N : Nat} {nF : Int} (hN : 46 ≤ N) (hNF : N = 46 + 7 * nF.toNat) {σ0 : Nat → va_E} {H : Heap} {locs : List Loc} {cells slots : Nat} (hH : zH D ad N A s.heap σ0 H locs) {sp_waiting : Int → Int} {sp_fieldCount : Int} {sp_trimBound : Int} {sp_planned : Int} {F_fd_colour : Int → Int} {F_fd_layer : Int → Int} {F_fd_column : Int → Int} {F_fd_cornerXs : Int → Int → Int} {F_fd_cornerYs : Int → Int → Int} {F_fd_crossings : Int → Int → Int} {F_fd_cornerCount : Int → Int} {F_fd_crossingCount : Int → Int} {F_fd_density : Int → Int} {F_fd_length : Int → Int} {F_fd_shift : Int → Int} {F_fd_pull : Int → Int} {F_fd_underlay : Int → Int} {F_fd_drawn : Int → Int} {F_pt_xs : Int → Int → Int} {F_pt_ys : Int → Int → Int} {F_pt_size : Int → Int} {pl_kinds : Int → Int} {pl_differencesX : Int → Int} {pl_differencesY : Int → Int} {pl_owners : Int → Int} {pl_kindCounts : Int → Int} {pl_threads : Int → Int} {pl_size : Int} {pl_seconds : UInt32} {pl_needleX : Int} {pl_needleY : Int} {pl_colour : Int} {mo_fields : Int} {mo_colour : Int → Int} {mo_layer : Int → Int} {mo_isColumn : Int → Int} {mo_corners : Int → Int} {mo_cornerX : Int → Int} {mo_cornerY : Int → Int} {mo_density : Int → Int} {mo_longest : Int → Int} {mo_shift : Int → Int} {mo_pull : Int → Int} {mo_hasUnderlay : Int → Int} {mo_bound : Int} {mo_pointX : Int → Int} {mo_pointY : Int → Int} {mo_points : Int} {mo_crossing : Int → Int} {mo_crossings : Int} {mo_isKnown : Int} {mo_commands : Int} {mo_kind : Int → Int} {mo_byX : Int → Int} {mo_byY : Int → Int} {mo_fieldOf : Int → Int} {mo_needleX : Int} {mo_needleY : Int} {mo_isSewn : Int → Int} {mo_hasFile : Int} {mo_format : Int} {mo_length : Int} {mo_heads : Int} {mo_late : Int} {mo_ran : Int} {mo_program : Int} {mo_thrown : Int} {mo_rowY : Int} {mo_stitches : Int} {R_sp_waiting : Int → Int} {R_sp_planned : Int} {R_F_fd_crossings : Int → Int → Int} {R_F_fd_crossingCount : Int → Int} {R_F_fd_drawn : Int → Int} {R_F_pt_xs : Int → Int → Int} {R_F_pt_ys : Int → Int → Int} {R_F_pt_size : Int → Int} {R_pl_kinds : Int → Int} {R_pl_differencesX : Int → Int} {R_pl_differencesY : Int → Int} {R_pl_owners : Int → Int} {R_pl_kindCounts : Int → Int} {R_pl_threads : Int → Int} {R_pl_size : Int} {R_pl_seconds : UInt32} {R_pl_needleX : Int} {R_pl_needleY : Int} {R_pl_colour : Int} {R_mo_pointX : Int → Int} {R_mo_pointY : Int → Int} {R_mo_points : Int} {R_mo_crossing : Int → Int} {R_mo_crossings : Int} {R_mo_isKnown : Int} {R_mo_commands : Int} {R_mo_kind : Int → Int} {R_mo_byX : Int → Int} {R_mo_byY : Int → Int} {R_mo_fieldOf : Int → Int} {R_mo_needleX : Int} {R_mo_needleY : Int} {R_mo_isSewn : Int → Int} {R_mo_thrown : Int} {R_mo_rowY : Int} (h_sp : σ0 0 = oC_sp ad sp_fieldCount sp_trimBound sp_planned) (h_sp_fields : σ0 1 = .inl (cF, 8, .inr (.inr (.inr (.inr (zFA ad nF)))))) (h_sp_waiting : σ0 2 = .inl (cZ, 8, .inl (zA sp_waiting))) (h_pl : σ0 3 = oC_pl ad pl_size pl_seconds pl_needleX pl_needleY pl_colour) (h_pl_kinds : σ0 4 = .inl (cI, 16641, .inl (zA pl_kinds))) (h_pl_differencesX : σ0 5 = .inl (cI, 16641, .inl (zA pl_differencesX))) (h_pl_differencesY : σ0 6 = .inl (cI, 16641, .inl (zA pl_differencesY))) (h_pl_owners : σ0 7 = .inl (cI, 16641, .inl (zA pl_owners))) (h_pl_kindCounts : σ0 8 = .inl (cI, 5, .inl (zA pl_kindCounts))) (h_pl_threads : σ0 9 = .inl (cI, 6, .inl (zA pl_threads))) (h_mo : σ0 19 = oC_mo ad mo_fields mo_bound mo_points mo_crossings mo_isKnown mo_commands mo_needleX mo_needleY mo_hasFile mo_format mo_length mo_heads mo_late mo_ran mo_program mo_thrown mo_rowY mo_stitches) (h_mo_colour : σ0 20 = .inl (cI, 8, .inl (zA mo_colour))) (h_mo_layer : σ0 21 = .inl (cI, 8, .inl (zA mo_layer))) (h_mo_isColumn : σ0 22 = .inl (cZ, 8, .inl (zA mo_isColumn))) (h_mo_corners : σ0 23 = .inl (cI, 8, .inl (zA mo_corners))) (h_mo_cornerX : σ0 24 = .inl (cI, 64, .inl (zA mo_cornerX))) (h_mo_cornerY : σ0 25 = .inl (cI, 64, .inl (zA mo_cornerY))) (h_mo_density : σ0 26 = .inl (cI, 8, .inl (zA mo_density))) (h_mo_longest : σ0 27 = .inl (cI, 8, .inl (zA mo_longest))) (h_mo_shift : σ0 28 = .inl (cI, 8, .inl (zA mo_shift))) (h_mo_pull : σ0 29 = .inl (cI, 8, .inl (zA mo_pull))) (h_mo_hasUnderlay : σ0 30 = .inl (cZ, 8, .inl (zA mo_hasUnderlay))) (h_mo_pointX : σ0 31 = .inl (cI, 4096, .inl (zA mo_pointX))) (h_mo_pointY : σ0 32 = .inl (cI, 4096, .inl (zA mo_pointY))) (h_mo_crossing : σ0 33 = .inl (cI, 8, .inl (zA mo_crossing))) (h_mo_kind : σ0 34 = .inl (cI, 20000, .inl (zA mo_kind))) (h_mo_byX : σ0 35 = .inl (cI, 20000, .inl (zA mo_byX))) (h_mo_byY : σ0 36 = .inl (cI, 20000, .inl (zA mo_byY))) (h_mo_fieldOf : σ0 37 = .inl (cI, 20000, .inl (zA mo_fieldOf))) (h_mo_isSewn : σ0 38 = .inl (cZ, 8, .inl (zA mo_isSewn))) (h_FF : zFF ad cI nF σ0 F_fd_colour F_fd_layer F_fd_column F_fd_cornerXs F_fd_cornerYs F_fd_crossings F_fd_cornerCount F_fd_crossingCount F_fd_density F_fd_length F_fd_shift F_fd_pull F_fd_underlay F_fd_drawn F_pt_xs F_pt_ys F_pt_size) {ii : Int} (hiL : 0 ≤ ii ∧ ii + 7 ≤ L) (hcs : cells + 9 ≤ 83562 ∧ slots + 4300 ≤ 8845420) {ls : Array Slot} (hl : lv_has ls 10 [(0, .ref b), (1, .ref (ad 0)), (2, .ref (ad 19)), (3, .ref (ad 44)), (4, .ref (ad 45)), (5, .int (zI ii))]) (hf : f_law_time sp_waiting sp_trimBound sp_planned F_fd_colour F_fd_layer F_fd_column F_fd_cornerXs F_fd_cornerYs F_fd_crossings F_fd_cornerCount F_fd_crossingCount F_fd_density F_fd_length F_fd_shift F_fd_pull F_fd_underlay F_fd_drawn F_pt_xs F_pt_ys F_pt_size pl_kinds pl_differencesX pl_differencesY pl_owners pl_kindCounts pl_threads pl_size pl_seconds pl_needleX pl_needleY pl_colour mo_fields mo_colour mo_layer mo_isColumn mo_corners mo_cornerX mo_cornerY mo_density mo_longest mo_shift mo_pull mo_hasUnderlay mo_bound mo_pointX mo_pointY mo_points mo_crossing mo_crossings mo_isKnown mo_commands mo_kind mo_byX mo_byY mo_fieldOf mo_needleX mo_needleY mo_isSewn mo_thrown mo_rowY nF = some (R_sp_waiting, R_sp_planned, R_F_fd_crossings, R_F_fd_crossingCount, R_F_fd_drawn, R_F_pt_xs, R_F_pt_ys, R_F_pt_size, R_pl_kinds, R_pl_differencesX, R_pl_differencesY, R_pl_owners, R_pl_kindCounts, R_pl_threads, R_pl_size, R_pl_seconds, R_pl_needleX, R_pl_needleY, R_pl_colour, R_mo_pointX, R_mo_pointY, R_mo_points, R_mo_crossing, R_mo_crossings, R_mo_isKnown, R_mo_commands, R_mo_kind, R_mo_byX, R_mo_byY, R_mo_fieldOf, R_mo_needleX, R_mo_needleY, R_mo_isSewn, R_mo_thrown, R_mo_rowY))
    (kk : ∀ (σ : Nat → va_E) (H : Heap) (locs : List Loc) (cells1 slots1 : Nat), cells1 ≤ cells + 9 → slots1 ≤ slots + 4300 → zH D ad N A s.heap σ H locs → ∀ (h_sp : σ 0 = oC_sp ad sp_fieldCount sp_trimBound R_sp_planned) (h_sp_waiting : σ 2 = .inl (cZ, 8, .inl (zA R_sp_waiting))) (h_pl : σ 3 = oC_pl ad R_pl_size R_pl_seconds R_pl_needleX R_pl_needleY R_pl_colour) (h_pl_kinds : σ 4 = .inl (cI, 16641, .inl (zA R_pl_kinds))) (h_pl_differencesX : σ 5 = .inl (cI, 16641, .inl (zA R_pl_differencesX))) (h_pl_differencesY : σ 6 = .inl (cI, 16641, .inl (zA R_pl_differencesY))) (h_pl_owners : σ 7 = .inl (cI, 16641, .inl (zA R_pl_owners))) (h_pl_kindCounts : σ 8 = .inl (cI, 5, .inl (zA R_pl_kindCounts))) (h_pl_threads : σ 9 = .inl (cI, 6, .inl (zA R_pl_threads))) (h_mo : σ 19 = oC_mo ad mo_fields mo_bound R_mo_points R_mo_crossings R_mo_isKnown R_mo_commands R_mo_needleX R_mo_needleY mo_hasFile mo_format mo_length mo_heads mo_late mo_ran mo_program R_mo_thrown R_mo_rowY mo_stitches) (h_mo_pointX : σ 31 = .inl (cI, 4096, .inl (zA R_mo_pointX))) (h_mo_pointY : σ 32 = .inl (cI, 4096, .inl (zA R_mo_pointY))) (h_mo_crossing : σ 33 = .inl (cI, 8, .inl (zA R_mo_crossing))) (h_mo_kind : σ 34 = .inl (cI, 20000, .inl (zA R_mo_kind))) (h_mo_byX : σ 35 = .inl (cI, 20000, .inl (zA R_mo_byX))) (h_mo_byY : σ 36 = .inl (cI, 20000, .inl (zA R_mo_byY))) (h_mo_fieldOf : σ 37 = .inl (cI, 20000, .inl (zA R_mo_fieldOf))) (h_mo_isSewn : σ 38 = .inl (cZ, 8, .inl (zA R_mo_isSewn))) (h_FF : zFF ad cI nF σ F_fd_colour F_fd_layer F_fd_column F_fd_cornerXs F_fd_cornerYs R_F_fd_crossings F_fd_cornerCount R_F_fd_crossingCount F_fd_density F_fd_length F_fd_shift F_fd_pull F_fd_underlay R_F_fd_drawn R_F_pt_xs R_F_pt_ys R_F_pt_size), ∀ (hbg : ∀ i : Nat, i < 46 → i ≠ 0 → i ≠ 2 → i ≠ 3 → i ≠ 4 → i ≠ 5 → i ≠ 6 → i ≠ 7 → i ≠ 8 → i ≠ 9 → i ≠ 19 → i ≠ 31 → i ≠ 32 → i ≠ 33 → i ≠ 34 → i ≠ 35 → i ≠ 36 → i ≠ 37 → i ≠ 38 → σ i = σ0 i) (ls : Array Slot), lv_has ls 10 [(0, .ref b), (1, .ref (ad 0)), (2, .ref (ad 19)), (3, .ref (ad 44)), (4, .ref (ad 45)), (5, .int (zI ii))] → W p l e room_1 s m args below meth c H locs cells1 slots1 Q (F0 m 1430 ls [])) : W p l e room_1 s m args below meth c H locs cells slots Q (F0 m 683 ls []) := by
  have hI := zD_inj hH.2.1
  have g_c : cells ≤ 83562 := by omega
  have g_s : slots ≤ 8845420 := by omega
  have hk_out : 44 < N := by omega
  have hk_outD : 45 < N := by omega
  have hk_sp : 0 < N := by omega
  have hk_sp_fields : 1 < N := by omega
  have hk_sp_waiting : 2 < N := by omega
  have hk_pl : 3 < N := by omega
  have hk_pl_kinds : 4 < N := by omega
  have hk_pl_differencesX : 5 < N := by omega
  have hk_pl_differencesY : 6 < N := by omega
  have hk_pl_owners : 7 < N := by omega
  have hk_pl_kindCounts : 8 < N := by omega
  have hk_pl_threads : 9 < N := by omega
  have hk_mo : 19 < N := by omega
  have hk_mo_colour : 20 < N := by omega
  have hk_mo_layer : 21 < N := by omega
  have hk_mo_isColumn : 22 < N := by omega
  have hk_mo_corners : 23 < N := by omega
  have hk_mo_cornerX : 24 < N := by omega
  have hk_mo_cornerY : 25 < N := by omega
  have hk_mo_density : 26 < N := by omega
  have hk_mo_longest : 27 < N := by omega
  have hk_mo_shift : 28 < N := by omega
  have hk_mo_pull : 29 < N := by omega
  have hk_mo_hasUnderlay : 30 < N := by omega
  have hk_mo_pointX : 31 < N := by omega
  have hk_mo_pointY : 32 < N := by omega
  have hk_mo_crossing : 33 < N := by omega
  have hk_mo_kind : 34 < N := by omega
  have hk_mo_byX : 35 < N := by omega
  have hk_mo_byY : 36 < N := by omega
  have hk_mo_fieldOf : 37 < N := by omega
  have hk_mo_isSewn : 38 < N := by omega
  have hbg : ∀ i : Nat, i < 46 → i ≠ 0 → i ≠ 2 → i ≠ 3 → i ≠ 4 → i ≠ 5 → i ≠ 6 → i ≠ 7 → i ≠ 8 → i ≠ 9 → i ≠ 19 → i ≠ 31 → i ≠ 32 → i ≠ 33 → i ≠ 34 → i ≠ 35 → i ≠ 36 → i ≠ 37 → i ≠ 38 → σ0 i = σ0 i := fun _ _ _ _ _ _ _ _ _ _ _ _ _ _ _ _ _ _ _ _ => rfl
  unfold f_law_time at hf
  refine lv_aload_n hx hb dL_law_683 rfl (lv_at hl 1 rfl) ?_
  obtain ⟨r1, a2, u3, u4, u5, u6, u7, u8, u9, a10, a11, a12, a13, a14, a15, u16, u17, u18, u19, u20, k21, hf⟩ := zb20_some hf
  refine zcVf (C := RX6) (As := []) (rest := []) hx hb hml hown hts hl.1 hK hH hA (c_X6_time hI hN hNF  h_sp h_sp_fields h_sp_waiting h_pl h_pl_kinds h_pl_differencesX h_pl_differencesY h_pl_owners h_pl_kindCounts h_pl_threads h_FF k21) zk_t2_71 zk_t2_72 zk_t2_73 zk_t1_1 zk_t2_74 hd_X6_time rfl ⟨rfl, rfl, Nat.le_of_ble_eq_true rfl, Nat.le_of_ble_eq_true rfl⟩ ⟨g_c, g_s⟩ hk_sp h_sp rfl rfl rfl (Nat.le_of_ble_eq_true rfl) dL_law_684 (fun q23 σ22 Hσ22 lσ22 hp hH => ?_)
  obtain ⟨hr1, h_sp, h_sp_waiting, h_pl, h_pl_kinds, h_pl_differencesX, h_pl_differencesY, h_pl_owners, h_pl_kindCounts, h_pl_threads, h_FF, hn⟩ := hp
  replace hr1 := hr1.symm; subst hr1
  have h_sp_fields := (hn 1 (by decide) (by decide) (by decide) (by decide) (by decide) (by decide) (by decide) (by decide) (by decide) (by decide)).trans h_sp_fields
  have h_mo := (hn 19 (by decide) (by decide) (by decide) (by decide) (by decide) (by decide) (by decide) (by decide) (by decide) (by decide)).trans h_mo
  have h_mo_colour := (hn 20 (by decide) (by decide) (by decide) (by decide) (by decide) (by decide) (by decide) (by decide) (by decide) (by decide)).trans h_mo_colour
  have h_mo_layer := (hn 21 (by decide) (by decide) (by decide) (by decide) (by decide) (by decide) (by decide) (by decide) (by decide) (by decide)).trans h_mo_layer
  have h_mo_isColumn := (hn 22 (by decide) (by decide) (by decide) (by decide) (by decide) (by decide) (by decide) (by decide) (by decide) (by decide)).trans h_mo_isColumn
  have h_mo_corners := (hn 23 (by decide) (by decide) (by decide) (by decide) (by decide) (by decide) (by decide) (by decide) (by decide) (by decide)).trans h_mo_corners
  have h_mo_cornerX := (hn 24 (by decide) (by decide) (by decide) (by decide) (by decide) (by decide) (by decide) (by decide) (by decide) (by decide)).trans h_mo_cornerX
  have h_mo_cornerY := (hn 25 (by decide) (by decide) (by decide) (by decide) (by decide) (by decide) (by decide) (by decide) (by decide) (by decide)).trans h_mo_cornerY
  have h_mo_density := (hn 26 (by decide) (by decide) (by decide) (by decide) (by decide) (by decide) (by decide) (by decide) (by decide) (by decide)).trans h_mo_density
  have h_mo_longest := (hn 27 (by decide) (by decide) (by decide) (by decide) (by decide) (by decide) (by decide) (by decide) (by decide) (by decide)).trans h_mo_longest
  have h_mo_shift := (hn 28 (by decide) (by decide) (by decide) (by decide) (by decide) (by decide) (by decide) (by decide) (by decide) (by decide)).trans h_mo_shift
  have h_mo_pull := (hn 29 (by decide) (by decide) (by decide) (by decide) (by decide) (by decide) (by decide) (by decide) (by decide) (by decide)).trans h_mo_pull
  have h_mo_hasUnderlay := (hn 30 (by decide) (by decide) (by decide) (by decide) (by decide) (by decide) (by decide) (by decide) (by decide) (by decide)).trans h_mo_hasUnderlay
  have h_mo_pointX := (hn 31 (by decide) (by decide) (by decide) (by decide) (by decide) (by decide) (by decide) (by decide) (by decide) (by decide)).trans h_mo_pointX
  have h_mo_pointY := (hn 32 (by decide) (by decide) (by decide) (by decide) (by decide) (by decide) (by decide) (by decide) (by decide) (by decide)).trans h_mo_pointY
  have h_mo_crossing := (hn 33 (by decide) (by decide) (by decide) (by decide) (by decide) (by decide) (by decide) (by decide) (by decide) (by decide)).trans h_mo_crossing
  have h_mo_kind := (hn 34 (by decide) (by decide) (by decide) (by decide) (by decide) (by decide) (by decide) (by decide) (by decide) (by decide)).trans h_mo_kind
  have h_mo_byX := (hn 35 (by decide) (by decide) (by decide) (by decide) (by decide) (by decide) (by decide) (by decide) (by decide) (by decide)).trans h_mo_byX
  have h_mo_byY := (hn 36 (by decide) (by decide) (by decide) (by decide) (by decide) (by decide) (by decide) (by decide) (by decide) (by decide)).trans h_mo_byY
  have h_mo_fieldOf := (hn 37 (by decide) (by decide) (by decide) (by decide) (by decide) (by decide) (by decide) (by decide) (by decide) (by decide)).trans h_mo_fieldOf
  have h_mo_isSewn := (hn 38 (by decide) (by decide) (by decide) (by decide) (by decide) (by decide) (by decide) (by decide) (by decide) (by decide)).trans h_mo_isSewn
  have hbg : ∀ i : Nat, i < 46 → i ≠ 0 → i ≠ 2 → i ≠ 3 → i ≠ 4 → i ≠ 5 → i ≠ 6 → i ≠ 7 → i ≠ 8 → i ≠ 9 → i ≠ 19 → i ≠ 31 → i ≠ 32 → i ≠ 33 → i ≠ 34 → i ≠ 35 → i ≠ 36 → i ≠ 37 → i ≠ 38 → σ22 i = σ0 i := fun i h46 a0 a1 a2 a3 a4 a5 a6 a7 a8 a9 a10 a11 a12 a13 a14 a15 a16 a17 => (hn i h46 a0 a1 a2 a3 a4 a5 a6 a7 a8).trans (hbg i h46 a0 a1 a2 a3 a4 a5 a6 a7 a8 a9 a10 a11 a12 a13 a14 a15 a16 a17)
  obtain ⟨k24, hf⟩ := zck_some hf
  refine lv_f2d hx hb dL_law_687 k24 ?_
  refine lv_dstore (lv' := [(6, .double (FP.f2d r1)), (0, .ref b), (1, .ref (ad 0)), (2, .ref (ad 19)), (3, .ref (ad 44)), (4, .ref (ad 45)), (5, .int (zI ii))]) hx hb dL_law_688 hl (by decide) rfl (fun ls hl => ?_)
  refine lv_aload_n hx hb dL_law_690 rfl (lv_at hl 3 rfl) ?_
  obtain ⟨r25, a26, a27, u28, a29, u30, u31, u32, a33, a34, a35, a36, u37, u38, a39, u40, u41, k42, hf⟩ := zb17_some hf
  refine zcVf (C := RX7) (As := []) (rest := []) hx hb hml hown hts hl.1 hK hH hA (c_X7_time hI hN  h_mo h_mo_colour h_mo_layer h_mo_isColumn h_mo_corners h_mo_cornerX h_mo_cornerY h_mo_density h_mo_longest h_mo_shift h_mo_pull h_mo_hasUnderlay h_mo_pointX h_mo_pointY h_mo_crossing h_mo_kind h_mo_byX h_mo_byY h_mo_fieldOf h_mo_isSewn k42) zk_t5_111 zk_t5_112 zk_t5_113 zk_t1_6 zk_t5_114 hd_X7_time rfl ⟨rfl, rfl, Nat.le_of_ble_eq_true rfl, Nat.le_of_ble_eq_true rfl⟩ ⟨g_c, g_s⟩ hk_mo h_mo rfl rfl rfl (Nat.le_of_ble_eq_true rfl) dL_law_691 (fun q44 σ43 Hσ43 lσ43 hp hH => ?_)
  obtain ⟨hr1, h_mo, h_mo_pointX, h_mo_pointY, h_mo_crossing, h_mo_kind, h_mo_byX, h_mo_byY, h_mo_fieldOf, h_mo_isSewn, hn⟩ := hp
  replace hr1 := hr1.symm; subst hr1
  have h_sp := (hn 0 (by decide) (by decide) (by decide) (by decide) (by decide) (by decide) (by decide) (by decide) (by decide)).trans h_sp
  have h_sp_fields := (hn 1 (by decide) (by decide) (by decide) (by decide) (by decide) (by decide) (by decide) (by decide) (by decide)).trans h_sp_fields
  have h_sp_waiting := (hn 2 (by decide) (by decide) (by decide) (by decide) (by decide) (by decide) (by decide) (by decide) (by decide)).trans h_sp_waiting
  have h_pl := (hn 3 (by decide) (by decide) (by decide) (by decide) (by decide) (by decide) (by decide) (by decide) (by decide)).trans h_pl
  have h_pl_kinds := (hn 4 (by decide) (by decide) (by decide) (by decide) (by decide) (by decide) (by decide) (by decide) (by decide)).trans h_pl_kinds
  have h_pl_differencesX := (hn 5 (by decide) (by decide) (by decide) (by decide) (by decide) (by decide) (by decide) (by decide) (by decide)).trans h_pl_differencesX
  have h_pl_differencesY := (hn 6 (by decide) (by decide) (by decide) (by decide) (by decide) (by decide) (by decide) (by decide) (by decide)).trans h_pl_differencesY
  have h_pl_owners := (hn 7 (by decide) (by decide) (by decide) (by decide) (by decide) (by decide) (by decide) (by decide) (by decide)).trans h_pl_owners
  have h_pl_kindCounts := (hn 8 (by decide) (by decide) (by decide) (by decide) (by decide) (by decide) (by decide) (by decide) (by decide)).trans h_pl_kindCounts
  have h_pl_threads := (hn 9 (by decide) (by decide) (by decide) (by decide) (by decide) (by decide) (by decide) (by decide) (by decide)).trans h_pl_threads
  have h_mo_colour := (hn 20 (by decide) (by decide) (by decide) (by decide) (by decide) (by decide) (by decide) (by decide) (by decide)).trans h_mo_colour
  have h_mo_layer := (hn 21 (by decide) (by decide) (by decide) (by decide) (by decide) (by decide) (by decide) (by decide) (by decide)).trans h_mo_layer
  have h_mo_isColumn := (hn 22 (by decide) (by decide) (by decide) (by decide) (by decide) (by decide) (by decide) (by decide) (by decide)).trans h_mo_isColumn
  have h_mo_corners := (hn 23 (by decide) (by decide) (by decide) (by decide) (by decide) (by decide) (by decide) (by decide) (by decide)).trans h_mo_corners
  have h_mo_cornerX := (hn 24 (by decide) (by decide) (by decide) (by decide) (by decide) (by decide) (by decide) (by decide) (by decide)).trans h_mo_cornerX
  have h_mo_cornerY := (hn 25 (by decide) (by decide) (by decide) (by decide) (by decide) (by decide) (by decide) (by decide) (by decide)).trans h_mo_cornerY
  have h_mo_density := (hn 26 (by decide) (by decide) (by decide) (by decide) (by decide) (by decide) (by decide) (by decide) (by decide)).trans h_mo_density
  have h_mo_longest := (hn 27 (by decide) (by decide) (by decide) (by decide) (by decide) (by decide) (by decide) (by decide) (by decide)).trans h_mo_longest
  have h_mo_shift := (hn 28 (by decide) (by decide) (by decide) (by decide) (by decide) (by decide) (by decide) (by decide) (by decide)).trans h_mo_shift
  have h_mo_pull := (hn 29 (by decide) (by decide) (by decide) (by decide) (by decide) (by decide) (by decide) (by decide) (by decide)).trans h_mo_pull
  have h_mo_hasUnderlay := (hn 30 (by decide) (by decide) (by decide) (by decide) (by decide) (by decide) (by decide) (by decide) (by decide)).trans h_mo_hasUnderlay
  have h_FF := zFF_keep (fun i hi => hn i (by omega) (by omega) (by omega) (by omega) (by omega) (by omega) (by omega) (by omega) (by omega)) h_FF
  have hbg : ∀ i : Nat, i < 46 → i ≠ 0 → i ≠ 2 → i ≠ 3 → i ≠ 4 → i ≠ 5 → i ≠ 6 → i ≠ 7 → i ≠ 8 → i ≠ 9 → i ≠ 19 → i ≠ 31 → i ≠ 32 → i ≠ 33 → i ≠ 34 → i ≠ 35 → i ≠ 36 → i ≠ 37 → i ≠ 38 → σ43 i = σ0 i := fun i h46 a0 a1 a2 a3 a4 a5 a6 a7 a8 a9 a10 a11 a12 a13 a14 a15 a16 a17 => (hn i a9 a10 a11 a12 a13 a14 a15 a16 a17).trans (hbg i h46 a0 a1 a2 a3 a4 a5 a6 a7 a8 a9 a10 a11 a12 a13 a14 a15 a16 a17)
  obtain ⟨k45, hf⟩ := zck_some hf
  refine lv_f2d hx hb dL_law_694 k45 ?_
  refine lv_dstore (lv' := [(8, .double (FP.f2d r25)), (6, .double (FP.f2d r1)), (0, .ref b), (1, .ref (ad 0)), (2, .ref (ad 19)), (3, .ref (ad 44)), (4, .ref (ad 45)), (5, .int (zI ii))]) hx hb dL_law_695 hl (by decide) rfl (fun ls hl => ?_)
  obtain ⟨k46, hf⟩ := zck_some hf
  refine lv_dload hx hb dL_law_697 (lv_at hl 1 rfl) ?_
  refine lv_dload hx hb dL_law_699 (lv_at hl 0 rfl) ?_
  refine lv_dcmp hx hb dL_law_701 ?_
  rw [k46.1, show Op.cmpValue (FP.dcmp (FP.f2d r1) (FP.f2d r1)) .l = zI 0 from k46.2]
  refine lz_if_eq (tgt := 723) hx hb (by decide) dL_law_702 (by decide) (fun _ => ?_) (fun z => absurd rfl z)
  refine lv_goto (tgt := 1430) hx hb dL_law_723 (by decide) ?_
  cases hf
  exact kk _ _ _ _ _ (by omega) (by omega) hH h_sp h_sp_waiting h_pl h_pl_kinds h_pl_differencesX h_pl_differencesY h_pl_owners h_pl_kindCounts h_pl_threads h_mo h_mo_pointX h_mo_pointY h_mo_crossing h_mo_kind h_mo_byX h_mo_byY h_mo_fieldOf h_mo_isSewn h_FF hbg _ (lv_sub hl [2, 3, 4, 5, 6, 7] rfl)
def f_law_thread (sp_waiting : Int → Int) (sp_trimBound : Int) (sp_planned : Int) (F_fd_colour : Int → Int) (F_fd_layer : Int → Int) (F_fd_column : Int → Int) (F_fd_cornerXs : Int → Int → Int) (F_fd_cornerYs : Int → Int → Int) (F_fd_crossings : Int → Int → Int) (F_fd_cornerCount : Int → Int) (F_fd_crossingCount : Int → Int) (F_fd_density : Int → Int) (F_fd_length : Int → Int) (F_fd_shift : Int → Int) (F_fd_pull : Int → Int) (F_fd_underlay : Int → Int) (F_fd_drawn : Int → Int) (F_pt_xs : Int → Int → Int) (F_pt_ys : Int → Int → Int) (F_pt_size : Int → Int) (pl_kinds : Int → Int) (pl_differencesX : Int → Int) (pl_differencesY : Int → Int) (pl_owners : Int → Int) (pl_kindCounts : Int → Int) (pl_threads : Int → Int) (pl_size : Int) (pl_seconds : UInt32) (pl_needleX : Int) (pl_needleY : Int) (pl_colour : Int) (mo_fields : Int) (mo_colour : Int → Int) (mo_layer : Int → Int) (mo_isColumn : Int → Int) (mo_corners : Int → Int) (mo_cornerX : Int → Int) (mo_cornerY : Int → Int) (mo_density : Int → Int) (mo_longest : Int → Int) (mo_shift : Int → Int) (mo_pull : Int → Int) (mo_hasUnderlay : Int → Int) (mo_bound : Int) (mo_pointX : Int → Int) (mo_pointY : Int → Int) (mo_points : Int) (mo_crossing : Int → Int) (mo_crossings : Int) (mo_isKnown : Int) (mo_commands : Int) (mo_kind : Int → Int) (mo_byX : Int → Int) (mo_byY : Int → Int) (mo_fieldOf : Int → Int) (mo_needleX : Int) (mo_needleY : Int) (mo_isSewn : Int → Int) (mo_thrown : Int) (mo_rowY : Int) (lw_out : Int) (nF : Int) (w1 : Int) : Option ((Int → Int) × Int × (Int → Int → Int) × (Int → Int) × (Int → Int) × (Int → Int → Int) × (Int → Int → Int) × (Int → Int) × (Int → Int) × (Int → Int) × (Int → Int) × (Int → Int) × (Int → Int) × (Int → Int) × Int × UInt32 × Int × Int × Int × (Int → Int) × (Int → Int) × Int × (Int → Int) × Int × Int × Int × (Int → Int) × (Int → Int) × (Int → Int) × (Int → Int) × Int × Int × (Int → Int) × Int × Int × Int) :=
  zb21 (f_L_thread sp_waiting sp_trimBound sp_planned F_fd_colour F_fd_layer F_fd_column F_fd_cornerXs F_fd_cornerYs F_fd_crossings F_fd_cornerCount F_fd_crossingCount F_fd_density F_fd_length F_fd_shift F_fd_pull F_fd_underlay F_fd_drawn F_pt_xs F_pt_ys F_pt_size pl_kinds pl_differencesX pl_differencesY pl_owners pl_kindCounts pl_threads pl_size pl_seconds pl_needleX pl_needleY pl_colour nF w1 lw_out) fun r1 u2 u3 u4 u5 u6 u7 u8 u9 u10 u11 u12 u13 u14 u15 u16 u17 u18 u19 u20 u21 =>
  zb17 (f_X7_thread mo_fields mo_colour mo_layer mo_isColumn mo_corners mo_cornerX mo_cornerY mo_density mo_longest mo_shift mo_pull mo_hasUnderlay mo_bound mo_pointX mo_pointY mo_points mo_crossing mo_crossings mo_isKnown mo_commands mo_kind mo_byX mo_byY mo_fieldOf mo_needleX mo_needleY mo_isSewn mo_thrown mo_rowY w1) fun r25 a26 a27 u28 a29 u30 u31 u32 a33 a34 a35 a36 u37 u38 a39 u40 u41 =>
  zb1 (f_X7_thrown u40) fun r45 =>
  zck (zR r45 ∧ zR r1) <|
  if r45 = r1 then
    zck (zR r1) <|
    if r1 = 0 then
      zck (zR u21 ∧ zR r25) <|
      if u21 = r25 then
        some (u2, u3, u4, u5, u6, u7, u8, u9, u10, u11, u12, u13, u14, u15, u16, u17, u18, u19, u20, a26, a27, u28, a29, u30, u31, u32, a33, a34, a35, a36, u37, u38, a39, u40, u41, u21)
      else
        none
    else
      some (u2, u3, u4, u5, u6, u7, u8, u9, u10, u11, u12, u13, u14, u15, u16, u17, u18, u19, u20, a26, a27, u28, a29, u30, u31, u32, a33, a34, a35, a36, u37, u38, a39, u40, u41, u21)
  else
    none
set_option maxHeartbeats 4000000 in
set_option maxRecDepth 100000 in
theorem w_law_thread {p : Program} {l : Launch} {e : Env} {s : State} {m : MethodId} {args : Array Value} {below : List Frame} {meth : Method} {c : Code} {Q : State → Prop} {D : va_G} {cI cZ cF cL cD : ClassId} {b L : Nat} {xs : Nat → Int32} {A : Nat → Prop} (hx : p.tables.exec = Jvm.exec) (hb : c.code = code) (hml : c.maxLocals = 10) (hown : s.vm.findClass RL = some m.cls) (hts : ∀ w ∈ wsL_law, w.before args s = true) (hst : l.stackTraces = false) (hNc : zNc s) (hX0 : va_X b L xs s s.heap) (hbl : b < s.heap.size) (hbA : ¬ A b) (hA : ∀ q, s.heap.size ≤ q → A q) (hK : zK D (zT cI cZ cF cL cD) s) (hXs : zXs A s s.heap) (hL : L ≤ 3584)
    {ad : Nat → Nat} {N : Nat} {nF : Int} (hN : 46 ≤ N) (hNF : N = 46 + 7 * nF.toNat) {σ0 : Nat → va_E} {H : Heap} {locs : List Loc} {cells slots : Nat} (hH : zH D ad N A s.heap σ0 H locs) {sp_waiting : Int → Int} {sp_fieldCount : Int} {sp_trimBound : Int} {sp_planned : Int} {F_fd_colour : Int → Int} {F_fd_layer : Int → Int} {F_fd_column : Int → Int} {F_fd_cornerXs : Int → Int → Int} {F_fd_cornerYs : Int → Int → Int} {F_fd_crossings : Int → Int → Int} {F_fd_cornerCount : Int → Int} {F_fd_crossingCount : Int → Int} {F_fd_density : Int → Int} {F_fd_length : Int → Int} {F_fd_shift : Int → Int} {F_fd_pull : Int → Int} {F_fd_underlay : Int → Int} {F_fd_drawn : Int → Int} {F_pt_xs : Int → Int → Int} {F_pt_ys : Int → Int → Int} {F_pt_size : Int → Int} {pl_kinds : Int → Int} {pl_differencesX : Int → Int} {pl_differencesY : Int → Int} {pl_owners : Int → Int} {pl_kindCounts : Int → Int} {pl_threads : Int → Int} {pl_size : Int} {pl_seconds : UInt32} {pl_needleX : Int} {pl_needleY : Int} {pl_colour : Int} {mo_fields : Int} {mo_colour : Int → Int} {mo_layer : Int → Int} {mo_isColumn : Int → Int} {mo_corners : Int → Int} {mo_cornerX : Int → Int} {mo_cornerY : Int → Int} {mo_density : Int → Int} {mo_longest : Int → Int} {mo_shift : Int → Int} {mo_pull : Int → Int} {mo_hasUnderlay : Int → Int} {mo_bound : Int} {mo_pointX : Int → Int} {mo_pointY : Int → Int} {mo_points : Int} {mo_crossing : Int → Int} {mo_crossings : Int} {mo_isKnown : Int} {mo_commands : Int} {mo_kind : Int → Int} {mo_byX : Int → Int} {mo_byY : Int → Int} {mo_fieldOf : Int → Int} {mo_needleX : Int} {mo_needleY : Int} {mo_isSewn : Int → Int} {mo_hasFile : Int} {mo_format : Int} {mo_length : Int} {mo_heads : Int} {mo_late : Int} {mo_ran : Int} {mo_program : Int} {mo_thrown : Int} {mo_rowY : Int} {mo_stitches : Int} {lw_out : Int} {R_sp_waiting : Int → Int} {R_sp_planned : Int} {R_F_fd_crossings : Int → Int → Int} {R_F_fd_crossingCount : Int → Int} {R_F_fd_drawn : Int → Int} {R_F_pt_xs : Int → Int → Int} {R_F_pt_ys : Int → Int → Int} {R_F_pt_size : Int → Int} {R_pl_kinds : Int → Int} {R_pl_differencesX : Int → Int} {R_pl_differencesY : Int → Int} {R_pl_owners : Int → Int} {R_pl_kindCounts : Int → Int} {R_pl_threads : Int → Int} {R_pl_size : Int} {R_pl_seconds : UInt32} {R_pl_needleX : Int} {R_pl_needleY : Int} {R_pl_colour : Int} {R_mo_pointX : Int → Int} {R_mo_pointY : Int → Int} {R_mo_points : Int} {R_mo_crossing : Int → Int} {R_mo_crossings : Int} {R_mo_isKnown : Int} {R_mo_commands : Int} {R_mo_kind : Int → Int} {R_mo_byX : Int → Int} {R_mo_byY : Int → Int} {R_mo_fieldOf : Int → Int} {R_mo_needleX : Int} {R_mo_needleY : Int} {R_mo_isSewn : Int → Int} {R_mo_thrown : Int} {R_mo_rowY : Int} {R_lw_out : Int} (h_sp : σ0 0 = oC_sp ad sp_fieldCount sp_trimBound sp_planned) (h_sp_fields : σ0 1 = .inl (cF, 8, .inr (.inr (.inr (.inr (zFA ad nF)))))) (h_sp_waiting : σ0 2 = .inl (cZ, 8, .inl (zA sp_waiting))) (h_pl : σ0 3 = oC_pl ad pl_size pl_seconds pl_needleX pl_needleY pl_colour) (h_pl_kinds : σ0 4 = .inl (cI, 16641, .inl (zA pl_kinds))) (h_pl_differencesX : σ0 5 = .inl (cI, 16641, .inl (zA pl_differencesX))) (h_pl_differencesY : σ0 6 = .inl (cI, 16641, .inl (zA pl_differencesY))) (h_pl_owners : σ0 7 = .inl (cI, 16641, .inl (zA pl_owners))) (h_pl_kindCounts : σ0 8 = .inl (cI, 5, .inl (zA pl_kindCounts))) (h_pl_threads : σ0 9 = .inl (cI, 6, .inl (zA pl_threads))) (h_mo : σ0 19 = oC_mo ad mo_fields mo_bound mo_points mo_crossings mo_isKnown mo_commands mo_needleX mo_needleY mo_hasFile mo_format mo_length mo_heads mo_late mo_ran mo_program mo_thrown mo_rowY mo_stitches) (h_mo_colour : σ0 20 = .inl (cI, 8, .inl (zA mo_colour))) (h_mo_layer : σ0 21 = .inl (cI, 8, .inl (zA mo_layer))) (h_mo_isColumn : σ0 22 = .inl (cZ, 8, .inl (zA mo_isColumn))) (h_mo_corners : σ0 23 = .inl (cI, 8, .inl (zA mo_corners))) (h_mo_cornerX : σ0 24 = .inl (cI, 64, .inl (zA mo_cornerX))) (h_mo_cornerY : σ0 25 = .inl (cI, 64, .inl (zA mo_cornerY))) (h_mo_density : σ0 26 = .inl (cI, 8, .inl (zA mo_density))) (h_mo_longest : σ0 27 = .inl (cI, 8, .inl (zA mo_longest))) (h_mo_shift : σ0 28 = .inl (cI, 8, .inl (zA mo_shift))) (h_mo_pull : σ0 29 = .inl (cI, 8, .inl (zA mo_pull))) (h_mo_hasUnderlay : σ0 30 = .inl (cZ, 8, .inl (zA mo_hasUnderlay))) (h_mo_pointX : σ0 31 = .inl (cI, 4096, .inl (zA mo_pointX))) (h_mo_pointY : σ0 32 = .inl (cI, 4096, .inl (zA mo_pointY))) (h_mo_crossing : σ0 33 = .inl (cI, 8, .inl (zA mo_crossing))) (h_mo_kind : σ0 34 = .inl (cI, 20000, .inl (zA mo_kind))) (h_mo_byX : σ0 35 = .inl (cI, 20000, .inl (zA mo_byX))) (h_mo_byY : σ0 36 = .inl (cI, 20000, .inl (zA mo_byY))) (h_mo_fieldOf : σ0 37 = .inl (cI, 20000, .inl (zA mo_fieldOf))) (h_mo_isSewn : σ0 38 = .inl (cZ, 8, .inl (zA mo_isSewn))) (h_lw_out : zO cL σ0 lw_out) (h_FF : zFF ad cI nF σ0 F_fd_colour F_fd_layer F_fd_column F_fd_cornerXs F_fd_cornerYs F_fd_crossings F_fd_cornerCount F_fd_crossingCount F_fd_density F_fd_length F_fd_shift F_fd_pull F_fd_underlay F_fd_drawn F_pt_xs F_pt_ys F_pt_size) {ii : Int} (hiL : 0 ≤ ii ∧ ii + 7 ≤ L) {w1 : Int} (hw1 : xs (ii.toNat + 1) = zI w1) (hR1 : zR w1) (hcs : cells + 9 ≤ 83562 ∧ slots + 4300 ≤ 8845420) {ls : Array Slot} (hl : lv_has ls 10 [(0, .ref b), (1, .ref (ad 0)), (2, .ref (ad 19)), (3, .ref (ad 44)), (4, .ref (ad 45)), (5, .int (zI ii))]) (hf : f_law_thread sp_waiting sp_trimBound sp_planned F_fd_colour F_fd_layer F_fd_column F_fd_cornerXs F_fd_cornerYs F_fd_crossings F_fd_cornerCount F_fd_crossingCount F_fd_density F_fd_length F_fd_shift F_fd_pull F_fd_underlay F_fd_drawn F_pt_xs F_pt_ys F_pt_size pl_kinds pl_differencesX pl_differencesY pl_owners pl_kindCounts pl_threads pl_size pl_seconds pl_needleX pl_needleY pl_colour mo_fields mo_colour mo_layer mo_isColumn mo_corners mo_cornerX mo_cornerY mo_density mo_longest mo_shift mo_pull mo_hasUnderlay mo_bound mo_pointX mo_pointY mo_points mo_crossing mo_crossings mo_isKnown mo_commands mo_kind mo_byX mo_byY mo_fieldOf mo_needleX mo_needleY mo_isSewn mo_thrown mo_rowY lw_out nF w1 = some (R_sp_waiting, R_sp_planned, R_F_fd_crossings, R_F_fd_crossingCount, R_F_fd_drawn, R_F_pt_xs, R_F_pt_ys, R_F_pt_size, R_pl_kinds, R_pl_differencesX, R_pl_differencesY, R_pl_owners, R_pl_kindCounts, R_pl_threads, R_pl_size, R_pl_seconds, R_pl_needleX, R_pl_needleY, R_pl_colour, R_mo_pointX, R_mo_pointY, R_mo_points, R_mo_crossing, R_mo_crossings, R_mo_isKnown, R_mo_commands, R_mo_kind, R_mo_byX, R_mo_byY, R_mo_fieldOf, R_mo_needleX, R_mo_needleY, R_mo_isSewn, R_mo_thrown, R_mo_rowY, R_lw_out))
    (kk : ∀ (σ : Nat → va_E) (H : Heap) (locs : List Loc) (cells1 slots1 : Nat), cells1 ≤ cells + 9 → slots1 ≤ slots + 4300 → zH D ad N A s.heap σ H locs → ∀ (h_sp : σ 0 = oC_sp ad sp_fieldCount sp_trimBound R_sp_planned) (h_sp_waiting : σ 2 = .inl (cZ, 8, .inl (zA R_sp_waiting))) (h_pl : σ 3 = oC_pl ad R_pl_size R_pl_seconds R_pl_needleX R_pl_needleY R_pl_colour) (h_pl_kinds : σ 4 = .inl (cI, 16641, .inl (zA R_pl_kinds))) (h_pl_differencesX : σ 5 = .inl (cI, 16641, .inl (zA R_pl_differencesX))) (h_pl_differencesY : σ 6 = .inl (cI, 16641, .inl (zA R_pl_differencesY))) (h_pl_owners : σ 7 = .inl (cI, 16641, .inl (zA R_pl_owners))) (h_pl_kindCounts : σ 8 = .inl (cI, 5, .inl (zA R_pl_kindCounts))) (h_pl_threads : σ 9 = .inl (cI, 6, .inl (zA R_pl_threads))) (h_mo : σ 19 = oC_mo ad mo_fields mo_bound R_mo_points R_mo_crossings R_mo_isKnown R_mo_commands R_mo_needleX R_mo_needleY mo_hasFile mo_format mo_length mo_heads mo_late mo_ran mo_program R_mo_thrown R_mo_rowY mo_stitches) (h_mo_pointX : σ 31 = .inl (cI, 4096, .inl (zA R_mo_pointX))) (h_mo_pointY : σ 32 = .inl (cI, 4096, .inl (zA R_mo_pointY))) (h_mo_crossing : σ 33 = .inl (cI, 8, .inl (zA R_mo_crossing))) (h_mo_kind : σ 34 = .inl (cI, 20000, .inl (zA R_mo_kind))) (h_mo_byX : σ 35 = .inl (cI, 20000, .inl (zA R_mo_byX))) (h_mo_byY : σ 36 = .inl (cI, 20000, .inl (zA R_mo_byY))) (h_mo_fieldOf : σ 37 = .inl (cI, 20000, .inl (zA R_mo_fieldOf))) (h_mo_isSewn : σ 38 = .inl (cZ, 8, .inl (zA R_mo_isSewn))) (h_lw_out : zO cL σ R_lw_out) (h_FF : zFF ad cI nF σ F_fd_colour F_fd_layer F_fd_column F_fd_cornerXs F_fd_cornerYs R_F_fd_crossings F_fd_cornerCount R_F_fd_crossingCount F_fd_density F_fd_length F_fd_shift F_fd_pull F_fd_underlay R_F_fd_drawn R_F_pt_xs R_F_pt_ys R_F_pt_size), ∀ (hbg : ∀ i : Nat, i < 46 → i ≠ 0 → i ≠ 2 → i ≠ 3 → i ≠ 4 → i ≠ 5 → i ≠ 6 → i ≠ 7 → i ≠ 8 → i ≠ 9 → i ≠ 19 → i ≠ 31 → i ≠ 32 → i ≠ 33 → i ≠ 34 → i ≠ 35 → i ≠ 36 → i ≠ 37 → i ≠ 38 → i ≠ 44 → σ i = σ0 i) (ls : Array Slot), lv_has ls 10 [(0, .ref b), (1, .ref (ad 0)), (2, .ref (ad 19)), (3, .ref (ad 44)), (4, .ref (ad 45)), (5, .int (zI ii))] → W p l e room_1 s m args below meth c H locs cells1 slots1 Q (F0 m 1430 ls [])) : W p l e room_1 s m args below meth c H locs cells slots Q (F0 m 726 ls []) := by
  have hI := zD_inj hH.2.1
  have g_c : cells ≤ 83562 := by omega
  have g_s : slots ≤ 8845420 := by omega
  have hk_out : 44 < N := by omega
  have hk_outD : 45 < N := by omega
  have hk_sp : 0 < N := by omega
  have hk_sp_fields : 1 < N := by omega
  have hk_sp_waiting : 2 < N := by omega
  have hk_pl : 3 < N := by omega
  have hk_pl_kinds : 4 < N := by omega
  have hk_pl_differencesX : 5 < N := by omega
  have hk_pl_differencesY : 6 < N := by omega
  have hk_pl_owners : 7 < N := by omega
  have hk_pl_kindCounts : 8 < N := by omega
  have hk_pl_threads : 9 < N := by omega
  have hk_mo : 19 < N := by omega
  have hk_mo_colour : 20 < N := by omega
  have hk_mo_layer : 21 < N := by omega
  have hk_mo_isColumn : 22 < N := by omega
  have hk_mo_corners : 23 < N := by omega
  have hk_mo_cornerX : 24 < N := by omega
  have hk_mo_cornerY : 25 < N := by omega
  have hk_mo_density : 26 < N := by omega
  have hk_mo_longest : 27 < N := by omega
  have hk_mo_shift : 28 < N := by omega
  have hk_mo_pull : 29 < N := by omega
  have hk_mo_hasUnderlay : 30 < N := by omega
  have hk_mo_pointX : 31 < N := by omega
  have hk_mo_pointY : 32 < N := by omega
  have hk_mo_crossing : 33 < N := by omega
  have hk_mo_kind : 34 < N := by omega
  have hk_mo_byX : 35 < N := by omega
  have hk_mo_byY : 36 < N := by omega
  have hk_mo_fieldOf : 37 < N := by omega
  have hk_mo_isSewn : 38 < N := by omega
  have hbg : ∀ i : Nat, i < 46 → i ≠ 0 → i ≠ 2 → i ≠ 3 → i ≠ 4 → i ≠ 5 → i ≠ 6 → i ≠ 7 → i ≠ 8 → i ≠ 9 → i ≠ 19 → i ≠ 31 → i ≠ 32 → i ≠ 33 → i ≠ 34 → i ≠ 35 → i ≠ 36 → i ≠ 37 → i ≠ 38 → i ≠ 44 → σ0 i = σ0 i := fun _ _ _ _ _ _ _ _ _ _ _ _ _ _ _ _ _ _ _ _ _ => rfl
  unfold f_law_thread at hf
  refine lv_aload_n hx hb dL_law_726 rfl (lv_at hl 1 rfl) ?_
  refine lv_aload_n hx hb dL_law_727 rfl (lv_at hl 0 rfl) ?_
  refine lv_iload hx hb dL_law_728 (lv_at hl 5 rfl) ?_
  refine lv_iconst (v := zI 1) hx hb dL_law_730 (by decide +kernel) ?_
  refine lz_iadd hx hb dL_law_731 ?_
  refine lz_sld hx hb hX0 hbl hbA hH.2.2 hiL hL 1 (by decide) hw1 dL_law_732 ?_
  refine lv_aload_n hx hb dL_law_733 rfl (lv_at hl 3 rfl) ?_
  obtain ⟨r1, u2, u3, u4, u5, u6, u7, u8, u9, u10, u11, u12, u13, u14, u15, u16, u17, u18, u19, u20, u21, k22, hf⟩ := zb21_some hf
  refine zcH (As := [.ref (ad 0), .int (zI w1), .ref (ad 44)]) (rest := []) hx hb hml hown hts hl.1 hK hH hA (hXs.kept hH.2.2.2.1) hNc (c_L_thread (zD_inj hH.2.1) hN hNF hst h_sp h_sp_fields h_sp_waiting h_pl h_pl_kinds h_pl_differencesX h_pl_differencesY h_pl_owners h_pl_kindCounts h_pl_threads h_FF h_lw_out k22) zk_t3_158 zk_t3_159 zk_t1_0 zk_t3_160 hd_L_thread rfl ⟨rfl, rfl, Nat.le_of_ble_eq_true rfl, Nat.le_of_ble_eq_true rfl⟩ ⟨by show _ ≤ 83562; omega, by show _ ≤ 8845420; omega⟩ rfl (Nat.le_of_ble_eq_true rfl) dL_law_734 (fun q24 σ23 Hσ23 lσ23 hp hH => ?_)
  obtain ⟨hr1, h_sp, h_sp_waiting, h_pl, h_pl_kinds, h_pl_differencesX, h_pl_differencesY, h_pl_owners, h_pl_kindCounts, h_pl_threads, h_FF, h_lw_out, hn⟩ := hp
  subst hr1
  have h_sp_fields := (hn 1 (by decide) (by decide) (by decide) (by decide) (by decide) (by decide) (by decide) (by decide) (by decide) (by decide) (by decide)).trans h_sp_fields
  have h_mo := (hn 19 (by decide) (by decide) (by decide) (by decide) (by decide) (by decide) (by decide) (by decide) (by decide) (by decide) (by decide)).trans h_mo
  have h_mo_colour := (hn 20 (by decide) (by decide) (by decide) (by decide) (by decide) (by decide) (by decide) (by decide) (by decide) (by decide) (by decide)).trans h_mo_colour
  have h_mo_layer := (hn 21 (by decide) (by decide) (by decide) (by decide) (by decide) (by decide) (by decide) (by decide) (by decide) (by decide) (by decide)).trans h_mo_layer
  have h_mo_isColumn := (hn 22 (by decide) (by decide) (by decide) (by decide) (by decide) (by decide) (by decide) (by decide) (by decide) (by decide) (by decide)).trans h_mo_isColumn
  have h_mo_corners := (hn 23 (by decide) (by decide) (by decide) (by decide) (by decide) (by decide) (by decide) (by decide) (by decide) (by decide) (by decide)).trans h_mo_corners
  have h_mo_cornerX := (hn 24 (by decide) (by decide) (by decide) (by decide) (by decide) (by decide) (by decide) (by decide) (by decide) (by decide) (by decide)).trans h_mo_cornerX
  have h_mo_cornerY := (hn 25 (by decide) (by decide) (by decide) (by decide) (by decide) (by decide) (by decide) (by decide) (by decide) (by decide) (by decide)).trans h_mo_cornerY
  have h_mo_density := (hn 26 (by decide) (by decide) (by decide) (by decide) (by decide) (by decide) (by decide) (by decide) (by decide) (by decide) (by decide)).trans h_mo_density
  have h_mo_longest := (hn 27 (by decide) (by decide) (by decide) (by decide) (by decide) (by decide) (by decide) (by decide) (by decide) (by decide) (by decide)).trans h_mo_longest
  have h_mo_shift := (hn 28 (by decide) (by decide) (by decide) (by decide) (by decide) (by decide) (by decide) (by decide) (by decide) (by decide) (by decide)).trans h_mo_shift
  have h_mo_pull := (hn 29 (by decide) (by decide) (by decide) (by decide) (by decide) (by decide) (by decide) (by decide) (by decide) (by decide) (by decide)).trans h_mo_pull
  have h_mo_hasUnderlay := (hn 30 (by decide) (by decide) (by decide) (by decide) (by decide) (by decide) (by decide) (by decide) (by decide) (by decide) (by decide)).trans h_mo_hasUnderlay
  have h_mo_pointX := (hn 31 (by decide) (by decide) (by decide) (by decide) (by decide) (by decide) (by decide) (by decide) (by decide) (by decide) (by decide)).trans h_mo_pointX
  have h_mo_pointY := (hn 32 (by decide) (by decide) (by decide) (by decide) (by decide) (by decide) (by decide) (by decide) (by decide) (by decide) (by decide)).trans h_mo_pointY
  have h_mo_crossing := (hn 33 (by decide) (by decide) (by decide) (by decide) (by decide) (by decide) (by decide) (by decide) (by decide) (by decide) (by decide)).trans h_mo_crossing
  have h_mo_kind := (hn 34 (by decide) (by decide) (by decide) (by decide) (by decide) (by decide) (by decide) (by decide) (by decide) (by decide) (by decide)).trans h_mo_kind
  have h_mo_byX := (hn 35 (by decide) (by decide) (by decide) (by decide) (by decide) (by decide) (by decide) (by decide) (by decide) (by decide) (by decide)).trans h_mo_byX
  have h_mo_byY := (hn 36 (by decide) (by decide) (by decide) (by decide) (by decide) (by decide) (by decide) (by decide) (by decide) (by decide) (by decide)).trans h_mo_byY
  have h_mo_fieldOf := (hn 37 (by decide) (by decide) (by decide) (by decide) (by decide) (by decide) (by decide) (by decide) (by decide) (by decide) (by decide)).trans h_mo_fieldOf
  have h_mo_isSewn := (hn 38 (by decide) (by decide) (by decide) (by decide) (by decide) (by decide) (by decide) (by decide) (by decide) (by decide) (by decide)).trans h_mo_isSewn
  have hbg : ∀ i : Nat, i < 46 → i ≠ 0 → i ≠ 2 → i ≠ 3 → i ≠ 4 → i ≠ 5 → i ≠ 6 → i ≠ 7 → i ≠ 8 → i ≠ 9 → i ≠ 19 → i ≠ 31 → i ≠ 32 → i ≠ 33 → i ≠ 34 → i ≠ 35 → i ≠ 36 → i ≠ 37 → i ≠ 38 → i ≠ 44 → σ23 i = σ0 i := fun i h46 a0 a1 a2 a3 a4 a5 a6 a7 a8 a9 a10 a11 a12 a13 a14 a15 a16 a17 a18 => (hn i h46 a0 a1 a2 a3 a4 a5 a6 a7 a8 a18).trans (hbg i h46 a0 a1 a2 a3 a4 a5 a6 a7 a8 a9 a10 a11 a12 a13 a14 a15 a16 a17 a18)
  have g_c : cells + 1 ≤ 83562 := by omega
  have g_s : slots + 6 ≤ 8845420 := by omega
  refine lv_istore (lv' := [(6, .int (zI r1)), (0, .ref b), (1, .ref (ad 0)), (2, .ref (ad 19)), (3, .ref (ad 44)), (4, .ref (ad 45)), (5, .int (zI ii))]) hx hb dL_law_737 hl (by decide) rfl (fun ls hl => ?_)
  refine lv_aload_n hx hb dL_law_739 rfl (lv_at hl 3 rfl) ?_
  refine lv_aload_n hx hb dL_law_740 rfl (lv_at hl 1 rfl) ?_
  refine lv_iload hx hb dL_law_741 (lv_at hl 6 rfl) ?_
  refine lv_iconst (v := zI 1) hx hb dL_law_743 (by decide +kernel) ?_
  refine lz_iadd hx hb dL_law_744 ?_
  refine lz_sld hx hb hX0 hbl hbA hH.2.2 hiL hL 1 (by decide) hw1 dL_law_745 ?_
  obtain ⟨r25, a26, a27, u28, a29, u30, u31, u32, a33, a34, a35, a36, u37, u38, a39, u40, u41, k42, hf⟩ := zb17_some hf
  refine zcVi (C := RX7) (As := [.int (zI w1)]) (rest := []) hx hb hml hown hts hl.1 hK hH hA (c_X7_thread hI hN  h_mo h_mo_colour h_mo_layer h_mo_isColumn h_mo_corners h_mo_cornerX h_mo_cornerY h_mo_density h_mo_longest h_mo_shift h_mo_pull h_mo_hasUnderlay h_mo_pointX h_mo_pointY h_mo_crossing h_mo_kind h_mo_byX h_mo_byY h_mo_fieldOf h_mo_isSewn k42) zk_t5_124 zk_t5_125 zk_t5_126 zk_t1_6 zk_t5_127 hd_X7_thread rfl ⟨rfl, rfl, Nat.le_of_ble_eq_true rfl, Nat.le_of_ble_eq_true rfl⟩ ⟨g_c, g_s⟩ hk_mo h_mo rfl rfl rfl (Nat.le_of_ble_eq_true rfl) dL_law_746 (fun q44 σ43 Hσ43 lσ43 hp hH => ?_)
  obtain ⟨hr1, h_mo, h_mo_pointX, h_mo_pointY, h_mo_crossing, h_mo_kind, h_mo_byX, h_mo_byY, h_mo_fieldOf, h_mo_isSewn, hn⟩ := hp
  replace hr1 := hr1.symm; subst hr1
  have h_sp := (hn 0 (by decide) (by decide) (by decide) (by decide) (by decide) (by decide) (by decide) (by decide) (by decide)).trans h_sp
  have h_sp_fields := (hn 1 (by decide) (by decide) (by decide) (by decide) (by decide) (by decide) (by decide) (by decide) (by decide)).trans h_sp_fields
  have h_sp_waiting := (hn 2 (by decide) (by decide) (by decide) (by decide) (by decide) (by decide) (by decide) (by decide) (by decide)).trans h_sp_waiting
  have h_pl := (hn 3 (by decide) (by decide) (by decide) (by decide) (by decide) (by decide) (by decide) (by decide) (by decide)).trans h_pl
  have h_pl_kinds := (hn 4 (by decide) (by decide) (by decide) (by decide) (by decide) (by decide) (by decide) (by decide) (by decide)).trans h_pl_kinds
  have h_pl_differencesX := (hn 5 (by decide) (by decide) (by decide) (by decide) (by decide) (by decide) (by decide) (by decide) (by decide)).trans h_pl_differencesX
  have h_pl_differencesY := (hn 6 (by decide) (by decide) (by decide) (by decide) (by decide) (by decide) (by decide) (by decide) (by decide)).trans h_pl_differencesY
  have h_pl_owners := (hn 7 (by decide) (by decide) (by decide) (by decide) (by decide) (by decide) (by decide) (by decide) (by decide)).trans h_pl_owners
  have h_pl_kindCounts := (hn 8 (by decide) (by decide) (by decide) (by decide) (by decide) (by decide) (by decide) (by decide) (by decide)).trans h_pl_kindCounts
  have h_pl_threads := (hn 9 (by decide) (by decide) (by decide) (by decide) (by decide) (by decide) (by decide) (by decide) (by decide)).trans h_pl_threads
  have h_mo_colour := (hn 20 (by decide) (by decide) (by decide) (by decide) (by decide) (by decide) (by decide) (by decide) (by decide)).trans h_mo_colour
  have h_mo_layer := (hn 21 (by decide) (by decide) (by decide) (by decide) (by decide) (by decide) (by decide) (by decide) (by decide)).trans h_mo_layer
  have h_mo_isColumn := (hn 22 (by decide) (by decide) (by decide) (by decide) (by decide) (by decide) (by decide) (by decide) (by decide)).trans h_mo_isColumn
  have h_mo_corners := (hn 23 (by decide) (by decide) (by decide) (by decide) (by decide) (by decide) (by decide) (by decide) (by decide)).trans h_mo_corners
  have h_mo_cornerX := (hn 24 (by decide) (by decide) (by decide) (by decide) (by decide) (by decide) (by decide) (by decide) (by decide)).trans h_mo_cornerX
  have h_mo_cornerY := (hn 25 (by decide) (by decide) (by decide) (by decide) (by decide) (by decide) (by decide) (by decide) (by decide)).trans h_mo_cornerY
  have h_mo_density := (hn 26 (by decide) (by decide) (by decide) (by decide) (by decide) (by decide) (by decide) (by decide) (by decide)).trans h_mo_density
  have h_mo_longest := (hn 27 (by decide) (by decide) (by decide) (by decide) (by decide) (by decide) (by decide) (by decide) (by decide)).trans h_mo_longest
  have h_mo_shift := (hn 28 (by decide) (by decide) (by decide) (by decide) (by decide) (by decide) (by decide) (by decide) (by decide)).trans h_mo_shift
  have h_mo_pull := (hn 29 (by decide) (by decide) (by decide) (by decide) (by decide) (by decide) (by decide) (by decide) (by decide)).trans h_mo_pull
  have h_mo_hasUnderlay := (hn 30 (by decide) (by decide) (by decide) (by decide) (by decide) (by decide) (by decide) (by decide) (by decide)).trans h_mo_hasUnderlay
  have h_FF := zFF_keep (fun i hi => hn i (by omega) (by omega) (by omega) (by omega) (by omega) (by omega) (by omega) (by omega) (by omega)) h_FF
  have hbg : ∀ i : Nat, i < 46 → i ≠ 0 → i ≠ 2 → i ≠ 3 → i ≠ 4 → i ≠ 5 → i ≠ 6 → i ≠ 7 → i ≠ 8 → i ≠ 9 → i ≠ 19 → i ≠ 31 → i ≠ 32 → i ≠ 33 → i ≠ 34 → i ≠ 35 → i ≠ 36 → i ≠ 37 → i ≠ 38 → i ≠ 44 → σ43 i = σ0 i := fun i h46 a0 a1 a2 a3 a4 a5 a6 a7 a8 a9 a10 a11 a12 a13 a14 a15 a16 a17 a18 => (hn i a9 a10 a11 a12 a13 a14 a15 a16 a17).trans (hbg i h46 a0 a1 a2 a3 a4 a5 a6 a7 a8 a9 a10 a11 a12 a13 a14 a15 a16 a17 a18)
  have h_lw_out := zO_keep h_lw_out (hn 44 (by decide) (by decide) (by decide) (by decide) (by decide) (by decide) (by decide) (by decide) (by decide))
  refine lv_istore (lv' := [(7, .int (zI r25)), (6, .int (zI r1)), (0, .ref b), (1, .ref (ad 0)), (2, .ref (ad 19)), (3, .ref (ad 44)), (4, .ref (ad 45)), (5, .int (zI ii))]) hx hb dL_law_749 hl (by decide) rfl (fun ls hl => ?_)
  refine lv_aload_n hx hb dL_law_751 rfl (lv_at hl 4 rfl) ?_
  obtain ⟨r45, k46, hf⟩ := zb1_some hf
  refine zcVi (C := RX7) (As := []) (rest := []) hx hb hml hown hts hl.1 hK hH hA (c_X7_thrown hI hN  h_mo k46) zk_t5_0 zk_t5_1 zk_t5_2 zk_t1_6 zk_t5_3 hd_X7_thrown rfl ⟨rfl, rfl, Nat.le_of_ble_eq_true rfl, Nat.le_of_ble_eq_true rfl⟩ ⟨g_c, g_s⟩ hk_mo h_mo rfl rfl rfl (Nat.le_of_ble_eq_true rfl) dL_law_752 (fun q48 σ47 Hσ47 lσ47 hp hH => ?_)
  obtain ⟨hr1, hs1⟩ := hp; replace hr1 := hr1.symm; subst hr1; rw [hs1] at hH
  refine lv_iload hx hb dL_law_755 (lv_at hl 1 rfl) ?_
  obtain ⟨k49, hf⟩ := zck_some hf
  refine lz_icmp_eq (tgt := 762) hx hb k49 dL_law_757 (by decide) (fun c50 => ?_) (fun c50 => ?_)
  · replace hf := (if_pos c50).symm.trans hf
    refine lv_iload hx hb dL_law_762 (lv_at hl 1 rfl) ?_
    obtain ⟨k51, hf⟩ := zck_some hf
    refine lz_if_ne (tgt := 779) hx hb k51 dL_law_764 (by decide) (fun c52 => ?_) (fun c52 => ?_)
    · replace hf := (if_neg c52).symm.trans hf
      refine lv_goto (tgt := 1430) hx hb dL_law_779 (by decide) ?_
      cases hf
      exact kk _ _ _ _ _ (by omega) (by omega) hH h_sp h_sp_waiting h_pl h_pl_kinds h_pl_differencesX h_pl_differencesY h_pl_owners h_pl_kindCounts h_pl_threads h_mo h_mo_pointX h_mo_pointY h_mo_crossing h_mo_kind h_mo_byX h_mo_byY h_mo_fieldOf h_mo_isSewn h_lw_out h_FF hbg _ (lv_sub hl [2, 3, 4, 5, 6, 7] rfl)
    · replace hf := (if_pos c52).symm.trans hf
      refine lv_aload_n hx hb dL_law_767 rfl (lv_at hl 5 rfl) ?_
      refine lv_iconst (v := zI 0) hx hb dL_law_768 (by decide +kernel) ?_
      refine zlald hx hb hK hH hk_out h_lw_out rfl dL_law_769 ?_
      refine lv_iload hx hb dL_law_770 (lv_at hl 0 rfl) ?_
      refine lv_i2l hx hb dL_law_772 rfl ?_
      obtain ⟨k53, hf⟩ := zck_some hf
      refine lz_lcmpeq (tgt := 779) hx hb k53 dL_law_773 dL_law_774 (by decide) (fun c54 => ?_) (fun c54 => ?_)
      · replace hf := (if_pos c54).symm.trans hf
        refine lv_goto (tgt := 1430) hx hb dL_law_779 (by decide) ?_
        cases hf
        exact kk _ _ _ _ _ (by omega) (by omega) hH h_sp h_sp_waiting h_pl h_pl_kinds h_pl_differencesX h_pl_differencesY h_pl_owners h_pl_kindCounts h_pl_threads h_mo h_mo_pointX h_mo_pointY h_mo_crossing h_mo_kind h_mo_byX h_mo_byY h_mo_fieldOf h_mo_isSewn h_lw_out h_FF hbg _ (lv_sub hl [2, 3, 4, 5, 6, 7] rfl)
      · replace hf := (if_neg c54).symm.trans hf
        refine lv_iconst (v := zI 0) hx hb dL_law_777 (by decide +kernel) ?_
        cases hf
  · replace hf := (if_neg c50).symm.trans hf
    refine lv_iconst (v := zI 0) hx hb dL_law_760 (by decide +kernel) ?_
    cases hf
def f_law_covered (sp_fieldCount : Int) (F_fd_column : Int → Int) (F_fd_cornerXs : Int → Int → Int) (F_fd_cornerYs : Int → Int → Int) (F_fd_crossings : Int → Int → Int) (F_fd_cornerCount : Int → Int) (F_fd_crossingCount : Int → Int) (F_fd_density : Int → Int) (F_fd_length : Int → Int) (F_fd_shift : Int → Int) (F_fd_pull : Int → Int) (F_fd_underlay : Int → Int) (F_fd_drawn : Int → Int) (F_pt_xs : Int → Int → Int) (F_pt_ys : Int → Int → Int) (F_pt_size : Int → Int) (ra_cells : Int → Int) (ra_cellCount : Int) (mo_fields : Int) (mo_colour : Int → Int) (mo_layer : Int → Int) (mo_isColumn : Int → Int) (mo_corners : Int → Int) (mo_cornerX : Int → Int) (mo_cornerY : Int → Int) (mo_density : Int → Int) (mo_longest : Int → Int) (mo_shift : Int → Int) (mo_pull : Int → Int) (mo_hasUnderlay : Int → Int) (mo_bound : Int) (mo_pointX : Int → Int) (mo_pointY : Int → Int) (mo_points : Int) (mo_crossing : Int → Int) (mo_crossings : Int) (mo_isKnown : Int) (mo_commands : Int) (mo_kind : Int → Int) (mo_byX : Int → Int) (mo_byY : Int → Int) (mo_fieldOf : Int → Int) (mo_needleX : Int) (mo_needleY : Int) (mo_isSewn : Int → Int) (mo_isTouched : Int → Int) (mo_thrown : Int) (mo_rowY : Int) (lw_outD : UInt64) (nF : Int) (w1 : Int) : Option ((Int → Int → Int) × (Int → Int) × (Int → Int) × (Int → Int → Int) × (Int → Int → Int) × (Int → Int) × (Int → Int) × Int × (Int → Int) × (Int → Int) × Int × (Int → Int) × Int × Int × Int × (Int → Int) × (Int → Int) × (Int → Int) × (Int → Int) × Int × Int × (Int → Int) × (Int → Int) × Int × Int × UInt64) :=
  zb10 (f_L_covered sp_fieldCount F_fd_column F_fd_cornerXs F_fd_cornerYs F_fd_crossings F_fd_cornerCount F_fd_crossingCount F_fd_density F_fd_length F_fd_shift F_fd_pull F_fd_underlay F_fd_drawn F_pt_xs F_pt_ys F_pt_size ra_cells ra_cellCount nF w1 lw_outD) fun r1 u2 u3 u4 u5 u6 u7 u8 u9 u10 =>
  zb18 (f_X7_covered mo_fields mo_colour mo_layer mo_isColumn mo_corners mo_cornerX mo_cornerY mo_density mo_longest mo_shift mo_pull mo_hasUnderlay mo_bound mo_pointX mo_pointY mo_points mo_crossing mo_crossings mo_isKnown mo_commands mo_kind mo_byX mo_byY mo_fieldOf mo_needleX mo_needleY mo_isSewn mo_isTouched mo_thrown mo_rowY w1) fun r14 a15 a16 u17 a18 u19 u20 u21 a22 a23 a24 a25 u26 u27 a28 a29 u30 u31 =>
  zb1 (f_X7_thrown u30) fun r35 =>
  zck (zR r35 ∧ zR r1) <|
  if r35 = r1 then
    zck (zR r1) <|
    if r1 = 0 then
      zck (zn64 (FP.f2d r14) ∧ FP.f2d r14 = u10 ∧ zcd u10 = 0) <|
      some (u2, u3, u4, u5, u6, u7, u8, u9, a15, a16, u17, a18, u19, u20, u21, a22, a23, a24, a25, u26, u27, a28, a29, u30, u31, u10)
    else
      some (u2, u3, u4, u5, u6, u7, u8, u9, a15, a16, u17, a18, u19, u20, u21, a22, a23, a24, a25, u26, u27, a28, a29, u30, u31, u10)
  else
    none
set_option maxHeartbeats 4000000 in
set_option maxRecDepth 100000 in
theorem w_law_covered {p : Program} {l : Launch} {e : Env} {s : State} {m : MethodId} {args : Array Value} {below : List Frame} {meth : Method} {c : Code} {Q : State → Prop} {D : va_G} {cI cZ cF cL cD : ClassId} {b L : Nat} {xs : Nat → Int32} {A : Nat → Prop} (hx : p.tables.exec = Jvm.exec) (hb : c.code = code) (hml : c.maxLocals = 10) (hown : s.vm.findClass RL = some m.cls) (hts : ∀ w ∈ wsL_law, w.before args s = true) (hst : l.stackTraces = false) (hNc : zNc s) (hX0 : va_X b L xs s s.heap) (hbl : b < s.heap.size) (hbA : ¬ A b) (hA : ∀ q, s.heap.size ≤ q → A q) (hK : zK D (zT cI cZ cF cL cD) s) (hXs : zXs A s s.heap) (hL : L ≤ 3584)
    {ad : Nat → Nat} {N : Nat} {nF : Int} (hN : 46 ≤ N) (hNF : N = 46 + 7 * nF.toNat) {σ0 : Nat → va_E} {H : Heap} {locs : List Loc} {cells slots : Nat} (hH : zH D ad N A s.heap σ0 H locs) {sp_fieldCount : Int} {sp_trimBound : Int} {sp_planned : Int} {F_fd_colour : Int → Int} {F_fd_layer : Int → Int} {F_fd_column : Int → Int} {F_fd_cornerXs : Int → Int → Int} {F_fd_cornerYs : Int → Int → Int} {F_fd_crossings : Int → Int → Int} {F_fd_cornerCount : Int → Int} {F_fd_crossingCount : Int → Int} {F_fd_density : Int → Int} {F_fd_length : Int → Int} {F_fd_shift : Int → Int} {F_fd_pull : Int → Int} {F_fd_underlay : Int → Int} {F_fd_drawn : Int → Int} {F_pt_xs : Int → Int → Int} {F_pt_ys : Int → Int → Int} {F_pt_size : Int → Int} {ra_cells : Int → Int} {ra_cellCount : Int} {mo_fields : Int} {mo_colour : Int → Int} {mo_layer : Int → Int} {mo_isColumn : Int → Int} {mo_corners : Int → Int} {mo_cornerX : Int → Int} {mo_cornerY : Int → Int} {mo_density : Int → Int} {mo_longest : Int → Int} {mo_shift : Int → Int} {mo_pull : Int → Int} {mo_hasUnderlay : Int → Int} {mo_bound : Int} {mo_pointX : Int → Int} {mo_pointY : Int → Int} {mo_points : Int} {mo_crossing : Int → Int} {mo_crossings : Int} {mo_isKnown : Int} {mo_commands : Int} {mo_kind : Int → Int} {mo_byX : Int → Int} {mo_byY : Int → Int} {mo_fieldOf : Int → Int} {mo_needleX : Int} {mo_needleY : Int} {mo_isSewn : Int → Int} {mo_isTouched : Int → Int} {mo_hasFile : Int} {mo_format : Int} {mo_length : Int} {mo_heads : Int} {mo_late : Int} {mo_ran : Int} {mo_program : Int} {mo_thrown : Int} {mo_rowY : Int} {mo_stitches : Int} {lw_outD : UInt64} {R_F_fd_crossings : Int → Int → Int} {R_F_fd_crossingCount : Int → Int} {R_F_fd_drawn : Int → Int} {R_F_pt_xs : Int → Int → Int} {R_F_pt_ys : Int → Int → Int} {R_F_pt_size : Int → Int} {R_ra_cells : Int → Int} {R_ra_cellCount : Int} {R_mo_pointX : Int → Int} {R_mo_pointY : Int → Int} {R_mo_points : Int} {R_mo_crossing : Int → Int} {R_mo_crossings : Int} {R_mo_isKnown : Int} {R_mo_commands : Int} {R_mo_kind : Int → Int} {R_mo_byX : Int → Int} {R_mo_byY : Int → Int} {R_mo_fieldOf : Int → Int} {R_mo_needleX : Int} {R_mo_needleY : Int} {R_mo_isSewn : Int → Int} {R_mo_isTouched : Int → Int} {R_mo_thrown : Int} {R_mo_rowY : Int} {R_lw_outD : UInt64} (h_sp : σ0 0 = oC_sp ad sp_fieldCount sp_trimBound sp_planned) (h_sp_fields : σ0 1 = .inl (cF, 8, .inr (.inr (.inr (.inr (zFA ad nF)))))) (h_ra : σ0 10 = oC_ra ad ra_cellCount) (h_ra_cells : σ0 11 = .inl (cZ, 1024, .inl (zA ra_cells))) (h_mo : σ0 19 = oC_mo ad mo_fields mo_bound mo_points mo_crossings mo_isKnown mo_commands mo_needleX mo_needleY mo_hasFile mo_format mo_length mo_heads mo_late mo_ran mo_program mo_thrown mo_rowY mo_stitches) (h_mo_colour : σ0 20 = .inl (cI, 8, .inl (zA mo_colour))) (h_mo_layer : σ0 21 = .inl (cI, 8, .inl (zA mo_layer))) (h_mo_isColumn : σ0 22 = .inl (cZ, 8, .inl (zA mo_isColumn))) (h_mo_corners : σ0 23 = .inl (cI, 8, .inl (zA mo_corners))) (h_mo_cornerX : σ0 24 = .inl (cI, 64, .inl (zA mo_cornerX))) (h_mo_cornerY : σ0 25 = .inl (cI, 64, .inl (zA mo_cornerY))) (h_mo_density : σ0 26 = .inl (cI, 8, .inl (zA mo_density))) (h_mo_longest : σ0 27 = .inl (cI, 8, .inl (zA mo_longest))) (h_mo_shift : σ0 28 = .inl (cI, 8, .inl (zA mo_shift))) (h_mo_pull : σ0 29 = .inl (cI, 8, .inl (zA mo_pull))) (h_mo_hasUnderlay : σ0 30 = .inl (cZ, 8, .inl (zA mo_hasUnderlay))) (h_mo_pointX : σ0 31 = .inl (cI, 4096, .inl (zA mo_pointX))) (h_mo_pointY : σ0 32 = .inl (cI, 4096, .inl (zA mo_pointY))) (h_mo_crossing : σ0 33 = .inl (cI, 8, .inl (zA mo_crossing))) (h_mo_kind : σ0 34 = .inl (cI, 20000, .inl (zA mo_kind))) (h_mo_byX : σ0 35 = .inl (cI, 20000, .inl (zA mo_byX))) (h_mo_byY : σ0 36 = .inl (cI, 20000, .inl (zA mo_byY))) (h_mo_fieldOf : σ0 37 = .inl (cI, 20000, .inl (zA mo_fieldOf))) (h_mo_isSewn : σ0 38 = .inl (cZ, 8, .inl (zA mo_isSewn))) (h_mo_isTouched : σ0 39 = .inl (cZ, 1024, .inl (zA mo_isTouched))) (h_lw_outD : zOD cD σ0 lw_outD) (h_FF : zFF ad cI nF σ0 F_fd_colour F_fd_layer F_fd_column F_fd_cornerXs F_fd_cornerYs F_fd_crossings F_fd_cornerCount F_fd_crossingCount F_fd_density F_fd_length F_fd_shift F_fd_pull F_fd_underlay F_fd_drawn F_pt_xs F_pt_ys F_pt_size) {ii : Int} (hiL : 0 ≤ ii ∧ ii + 7 ≤ L) {w1 : Int} (hw1 : xs (ii.toNat + 1) = zI w1) (hR1 : zR w1) (hcs : cells + 9 ≤ 83562 ∧ slots + 4300 ≤ 8845420) {ls : Array Slot} (hl : lv_has ls 10 [(0, .ref b), (1, .ref (ad 0)), (2, .ref (ad 19)), (3, .ref (ad 44)), (4, .ref (ad 45)), (5, .int (zI ii))]) (hf : f_law_covered sp_fieldCount F_fd_column F_fd_cornerXs F_fd_cornerYs F_fd_crossings F_fd_cornerCount F_fd_crossingCount F_fd_density F_fd_length F_fd_shift F_fd_pull F_fd_underlay F_fd_drawn F_pt_xs F_pt_ys F_pt_size ra_cells ra_cellCount mo_fields mo_colour mo_layer mo_isColumn mo_corners mo_cornerX mo_cornerY mo_density mo_longest mo_shift mo_pull mo_hasUnderlay mo_bound mo_pointX mo_pointY mo_points mo_crossing mo_crossings mo_isKnown mo_commands mo_kind mo_byX mo_byY mo_fieldOf mo_needleX mo_needleY mo_isSewn mo_isTouched mo_thrown mo_rowY lw_outD nF w1 = some (R_F_fd_crossings, R_F_fd_crossingCount, R_F_fd_drawn, R_F_pt_xs, R_F_pt_ys, R_F_pt_size, R_ra_cells, R_ra_cellCount, R_mo_pointX, R_mo_pointY, R_mo_points, R_mo_crossing, R_mo_crossings, R_mo_isKnown, R_mo_commands, R_mo_kind, R_mo_byX, R_mo_byY, R_mo_fieldOf, R_mo_needleX, R_mo_needleY, R_mo_isSewn, R_mo_isTouched, R_mo_thrown, R_mo_rowY, R_lw_outD))
    (kk : ∀ (σ : Nat → va_E) (H : Heap) (locs : List Loc) (cells1 slots1 : Nat), cells1 ≤ cells + 9 → slots1 ≤ slots + 4300 → zH D ad N A s.heap σ H locs → ∀ (h_ra : σ 10 = oC_ra ad R_ra_cellCount) (h_ra_cells : σ 11 = .inl (cZ, 1024, .inl (zA R_ra_cells))) (h_mo : σ 19 = oC_mo ad mo_fields mo_bound R_mo_points R_mo_crossings R_mo_isKnown R_mo_commands R_mo_needleX R_mo_needleY mo_hasFile mo_format mo_length mo_heads mo_late mo_ran mo_program R_mo_thrown R_mo_rowY mo_stitches) (h_mo_pointX : σ 31 = .inl (cI, 4096, .inl (zA R_mo_pointX))) (h_mo_pointY : σ 32 = .inl (cI, 4096, .inl (zA R_mo_pointY))) (h_mo_crossing : σ 33 = .inl (cI, 8, .inl (zA R_mo_crossing))) (h_mo_kind : σ 34 = .inl (cI, 20000, .inl (zA R_mo_kind))) (h_mo_byX : σ 35 = .inl (cI, 20000, .inl (zA R_mo_byX))) (h_mo_byY : σ 36 = .inl (cI, 20000, .inl (zA R_mo_byY))) (h_mo_fieldOf : σ 37 = .inl (cI, 20000, .inl (zA R_mo_fieldOf))) (h_mo_isSewn : σ 38 = .inl (cZ, 8, .inl (zA R_mo_isSewn))) (h_mo_isTouched : σ 39 = .inl (cZ, 1024, .inl (zA R_mo_isTouched))) (h_lw_outD : zOD cD σ R_lw_outD) (h_FF : zFF ad cI nF σ F_fd_colour F_fd_layer F_fd_column F_fd_cornerXs F_fd_cornerYs R_F_fd_crossings F_fd_cornerCount R_F_fd_crossingCount F_fd_density F_fd_length F_fd_shift F_fd_pull F_fd_underlay R_F_fd_drawn R_F_pt_xs R_F_pt_ys R_F_pt_size), ∀ (hbg : ∀ i : Nat, i < 46 → i ≠ 10 → i ≠ 11 → i ≠ 19 → i ≠ 31 → i ≠ 32 → i ≠ 33 → i ≠ 34 → i ≠ 35 → i ≠ 36 → i ≠ 37 → i ≠ 38 → i ≠ 39 → i ≠ 45 → σ i = σ0 i) (ls : Array Slot), lv_has ls 10 [(0, .ref b), (1, .ref (ad 0)), (2, .ref (ad 19)), (3, .ref (ad 44)), (4, .ref (ad 45)), (5, .int (zI ii))] → W p l e room_1 s m args below meth c H locs cells1 slots1 Q (F0 m 1430 ls [])) : W p l e room_1 s m args below meth c H locs cells slots Q (F0 m 782 ls []) := by
  have hI := zD_inj hH.2.1
  have g_c : cells ≤ 83562 := by omega
  have g_s : slots ≤ 8845420 := by omega
  have hk_out : 44 < N := by omega
  have hk_outD : 45 < N := by omega
  have hk_sp : 0 < N := by omega
  have hk_sp_fields : 1 < N := by omega
  have hk_ra : 10 < N := by omega
  have hk_ra_cells : 11 < N := by omega
  have hk_mo : 19 < N := by omega
  have hk_mo_colour : 20 < N := by omega
  have hk_mo_layer : 21 < N := by omega
  have hk_mo_isColumn : 22 < N := by omega
  have hk_mo_corners : 23 < N := by omega
  have hk_mo_cornerX : 24 < N := by omega
  have hk_mo_cornerY : 25 < N := by omega
  have hk_mo_density : 26 < N := by omega
  have hk_mo_longest : 27 < N := by omega
  have hk_mo_shift : 28 < N := by omega
  have hk_mo_pull : 29 < N := by omega
  have hk_mo_hasUnderlay : 30 < N := by omega
  have hk_mo_pointX : 31 < N := by omega
  have hk_mo_pointY : 32 < N := by omega
  have hk_mo_crossing : 33 < N := by omega
  have hk_mo_kind : 34 < N := by omega
  have hk_mo_byX : 35 < N := by omega
  have hk_mo_byY : 36 < N := by omega
  have hk_mo_fieldOf : 37 < N := by omega
  have hk_mo_isSewn : 38 < N := by omega
  have hk_mo_isTouched : 39 < N := by omega
  have hbg : ∀ i : Nat, i < 46 → i ≠ 10 → i ≠ 11 → i ≠ 19 → i ≠ 31 → i ≠ 32 → i ≠ 33 → i ≠ 34 → i ≠ 35 → i ≠ 36 → i ≠ 37 → i ≠ 38 → i ≠ 39 → i ≠ 45 → σ0 i = σ0 i := fun _ _ _ _ _ _ _ _ _ _ _ _ _ _ _ => rfl
  unfold f_law_covered at hf
  refine lv_aload_n hx hb dL_law_782 rfl (lv_at hl 1 rfl) ?_
  refine lv_aload_n hx hb dL_law_783 rfl (lv_at hl 0 rfl) ?_
  refine lv_iload hx hb dL_law_784 (lv_at hl 5 rfl) ?_
  refine lv_iconst (v := zI 1) hx hb dL_law_786 (by decide +kernel) ?_
  refine lz_iadd hx hb dL_law_787 ?_
  refine lz_sld hx hb hX0 hbl hbA hH.2.2 hiL hL 1 (by decide) hw1 dL_law_788 ?_
  refine lv_aload hx hb dL_law_789 (lv_at hl 4 rfl) ?_
  obtain ⟨r1, u2, u3, u4, u5, u6, u7, u8, u9, u10, k11, hf⟩ := zb10_some hf
  refine zcH (As := [.ref (ad 0), .int (zI w1), .ref (ad 45)]) (rest := []) hx hb hml hown hts hl.1 hK hH hA (hXs.kept hH.2.2.2.1) hNc (c_L_covered (zD_inj hH.2.1) hN hNF hst h_sp h_sp_fields h_ra h_ra_cells h_FF h_lw_outD k11) zk_t3_165 zk_t3_166 zk_t1_0 zk_t3_167 hd_L_covered rfl ⟨rfl, rfl, Nat.le_of_ble_eq_true rfl, Nat.le_of_ble_eq_true rfl⟩ ⟨by show _ ≤ 83562; omega, by show _ ≤ 8845420; omega⟩ rfl (Nat.le_of_ble_eq_true rfl) dL_law_791 (fun q13 σ12 Hσ12 lσ12 hp hH => ?_)
  obtain ⟨hr1, h_ra, h_ra_cells, h_FF, h_lw_outD, hn⟩ := hp
  subst hr1
  have h_sp := (hn 0 (by decide) (by decide) (by decide) (by decide)).trans h_sp
  have h_sp_fields := (hn 1 (by decide) (by decide) (by decide) (by decide)).trans h_sp_fields
  have h_mo := (hn 19 (by decide) (by decide) (by decide) (by decide)).trans h_mo
  have h_mo_colour := (hn 20 (by decide) (by decide) (by decide) (by decide)).trans h_mo_colour
  have h_mo_layer := (hn 21 (by decide) (by decide) (by decide) (by decide)).trans h_mo_layer
  have h_mo_isColumn := (hn 22 (by decide) (by decide) (by decide) (by decide)).trans h_mo_isColumn
  have h_mo_corners := (hn 23 (by decide) (by decide) (by decide) (by decide)).trans h_mo_corners
  have h_mo_cornerX := (hn 24 (by decide) (by decide) (by decide) (by decide)).trans h_mo_cornerX
  have h_mo_cornerY := (hn 25 (by decide) (by decide) (by decide) (by decide)).trans h_mo_cornerY
  have h_mo_density := (hn 26 (by decide) (by decide) (by decide) (by decide)).trans h_mo_density
  have h_mo_longest := (hn 27 (by decide) (by decide) (by decide) (by decide)).trans h_mo_longest
  have h_mo_shift := (hn 28 (by decide) (by decide) (by decide) (by decide)).trans h_mo_shift
  have h_mo_pull := (hn 29 (by decide) (by decide) (by decide) (by decide)).trans h_mo_pull
  have h_mo_hasUnderlay := (hn 30 (by decide) (by decide) (by decide) (by decide)).trans h_mo_hasUnderlay
  have h_mo_pointX := (hn 31 (by decide) (by decide) (by decide) (by decide)).trans h_mo_pointX
  have h_mo_pointY := (hn 32 (by decide) (by decide) (by decide) (by decide)).trans h_mo_pointY
  have h_mo_crossing := (hn 33 (by decide) (by decide) (by decide) (by decide)).trans h_mo_crossing
  have h_mo_kind := (hn 34 (by decide) (by decide) (by decide) (by decide)).trans h_mo_kind
  have h_mo_byX := (hn 35 (by decide) (by decide) (by decide) (by decide)).trans h_mo_byX
  have h_mo_byY := (hn 36 (by decide) (by decide) (by decide) (by decide)).trans h_mo_byY
  have h_mo_fieldOf := (hn 37 (by decide) (by decide) (by decide) (by decide)).trans h_mo_fieldOf
  have h_mo_isSewn := (hn 38 (by decide) (by decide) (by decide) (by decide)).trans h_mo_isSewn
  have h_mo_isTouched := (hn 39 (by decide) (by decide) (by decide) (by decide)).trans h_mo_isTouched
  have hbg : ∀ i : Nat, i < 46 → i ≠ 10 → i ≠ 11 → i ≠ 19 → i ≠ 31 → i ≠ 32 → i ≠ 33 → i ≠ 34 → i ≠ 35 → i ≠ 36 → i ≠ 37 → i ≠ 38 → i ≠ 39 → i ≠ 45 → σ12 i = σ0 i := fun i h46 a0 a1 a2 a3 a4 a5 a6 a7 a8 a9 a10 a11 a12 => (hn i h46 a0 a1 a12).trans (hbg i h46 a0 a1 a2 a3 a4 a5 a6 a7 a8 a9 a10 a11 a12)
  have g_c : cells + 1 ≤ 83562 := by omega
  have g_s : slots + 6 ≤ 8845420 := by omega
  refine lv_istore (lv' := [(6, .int (zI r1)), (0, .ref b), (1, .ref (ad 0)), (2, .ref (ad 19)), (3, .ref (ad 44)), (4, .ref (ad 45)), (5, .int (zI ii))]) hx hb dL_law_794 hl (by decide) rfl (fun ls hl => ?_)
  refine lv_aload_n hx hb dL_law_796 rfl (lv_at hl 3 rfl) ?_
  refine lv_aload_n hx hb dL_law_797 rfl (lv_at hl 1 rfl) ?_
  refine lv_iload hx hb dL_law_798 (lv_at hl 6 rfl) ?_
  refine lv_iconst (v := zI 1) hx hb dL_law_800 (by decide +kernel) ?_
  refine lz_iadd hx hb dL_law_801 ?_
  refine lz_sld hx hb hX0 hbl hbA hH.2.2 hiL hL 1 (by decide) hw1 dL_law_802 ?_
  obtain ⟨r14, a15, a16, u17, a18, u19, u20, u21, a22, a23, a24, a25, u26, u27, a28, a29, u30, u31, k32, hf⟩ := zb18_some hf
  refine zcVf (C := RX7) (As := [.int (zI w1)]) (rest := []) hx hb hml hown hts hl.1 hK hH hA (c_X7_covered hI hN  h_mo h_mo_colour h_mo_layer h_mo_isColumn h_mo_corners h_mo_cornerX h_mo_cornerY h_mo_density h_mo_longest h_mo_shift h_mo_pull h_mo_hasUnderlay h_mo_pointX h_mo_pointY h_mo_crossing h_mo_kind h_mo_byX h_mo_byY h_mo_fieldOf h_mo_isSewn h_mo_isTouched k32) zk_t5_131 zk_t5_132 zk_t5_133 zk_t1_6 zk_t5_134 hd_X7_covered rfl ⟨rfl, rfl, Nat.le_of_ble_eq_true rfl, Nat.le_of_ble_eq_true rfl⟩ ⟨g_c, g_s⟩ hk_mo h_mo rfl rfl rfl (Nat.le_of_ble_eq_true rfl) dL_law_803 (fun q34 σ33 Hσ33 lσ33 hp hH => ?_)
  obtain ⟨hr1, h_mo, h_mo_pointX, h_mo_pointY, h_mo_crossing, h_mo_kind, h_mo_byX, h_mo_byY, h_mo_fieldOf, h_mo_isSewn, h_mo_isTouched, hn⟩ := hp
  replace hr1 := hr1.symm; subst hr1
  have h_sp := (hn 0 (by decide) (by decide) (by decide) (by decide) (by decide) (by decide) (by decide) (by decide) (by decide) (by decide)).trans h_sp
  have h_sp_fields := (hn 1 (by decide) (by decide) (by decide) (by decide) (by decide) (by decide) (by decide) (by decide) (by decide) (by decide)).trans h_sp_fields
  have h_ra := (hn 10 (by decide) (by decide) (by decide) (by decide) (by decide) (by decide) (by decide) (by decide) (by decide) (by decide)).trans h_ra
  have h_ra_cells := (hn 11 (by decide) (by decide) (by decide) (by decide) (by decide) (by decide) (by decide) (by decide) (by decide) (by decide)).trans h_ra_cells
  have h_mo_colour := (hn 20 (by decide) (by decide) (by decide) (by decide) (by decide) (by decide) (by decide) (by decide) (by decide) (by decide)).trans h_mo_colour
  have h_mo_layer := (hn 21 (by decide) (by decide) (by decide) (by decide) (by decide) (by decide) (by decide) (by decide) (by decide) (by decide)).trans h_mo_layer
  have h_mo_isColumn := (hn 22 (by decide) (by decide) (by decide) (by decide) (by decide) (by decide) (by decide) (by decide) (by decide) (by decide)).trans h_mo_isColumn
  have h_mo_corners := (hn 23 (by decide) (by decide) (by decide) (by decide) (by decide) (by decide) (by decide) (by decide) (by decide) (by decide)).trans h_mo_corners
  have h_mo_cornerX := (hn 24 (by decide) (by decide) (by decide) (by decide) (by decide) (by decide) (by decide) (by decide) (by decide) (by decide)).trans h_mo_cornerX
  have h_mo_cornerY := (hn 25 (by decide) (by decide) (by decide) (by decide) (by decide) (by decide) (by decide) (by decide) (by decide) (by decide)).trans h_mo_cornerY
  have h_mo_density := (hn 26 (by decide) (by decide) (by decide) (by decide) (by decide) (by decide) (by decide) (by decide) (by decide) (by decide)).trans h_mo_density
  have h_mo_longest := (hn 27 (by decide) (by decide) (by decide) (by decide) (by decide) (by decide) (by decide) (by decide) (by decide) (by decide)).trans h_mo_longest
  have h_mo_shift := (hn 28 (by decide) (by decide) (by decide) (by decide) (by decide) (by decide) (by decide) (by decide) (by decide) (by decide)).trans h_mo_shift
  have h_mo_pull := (hn 29 (by decide) (by decide) (by decide) (by decide) (by decide) (by decide) (by decide) (by decide) (by decide) (by decide)).trans h_mo_pull
  have h_mo_hasUnderlay := (hn 30 (by decide) (by decide) (by decide) (by decide) (by decide) (by decide) (by decide) (by decide) (by decide) (by decide)).trans h_mo_hasUnderlay
  have h_FF := zFF_keep (fun i hi => hn i (by omega) (by omega) (by omega) (by omega) (by omega) (by omega) (by omega) (by omega) (by omega) (by omega)) h_FF
  have hbg : ∀ i : Nat, i < 46 → i ≠ 10 → i ≠ 11 → i ≠ 19 → i ≠ 31 → i ≠ 32 → i ≠ 33 → i ≠ 34 → i ≠ 35 → i ≠ 36 → i ≠ 37 → i ≠ 38 → i ≠ 39 → i ≠ 45 → σ33 i = σ0 i := fun i h46 a0 a1 a2 a3 a4 a5 a6 a7 a8 a9 a10 a11 a12 => (hn i a2 a3 a4 a5 a6 a7 a8 a9 a10 a11).trans (hbg i h46 a0 a1 a2 a3 a4 a5 a6 a7 a8 a9 a10 a11 a12)
  have h_lw_outD := zOD_keep h_lw_outD (hn 45 (by decide) (by decide) (by decide) (by decide) (by decide) (by decide) (by decide) (by decide) (by decide) (by decide))
  refine lv_fstore (lv' := [(7, .float r14), (6, .int (zI r1)), (0, .ref b), (1, .ref (ad 0)), (2, .ref (ad 19)), (3, .ref (ad 44)), (4, .ref (ad 45)), (5, .int (zI ii))]) hx hb dL_law_806 hl (by decide) rfl (fun ls hl => ?_)
  refine lv_aload_n hx hb dL_law_808 rfl (lv_at hl 4 rfl) ?_
  obtain ⟨r35, k36, hf⟩ := zb1_some hf
  refine zcVi (C := RX7) (As := []) (rest := []) hx hb hml hown hts hl.1 hK hH hA (c_X7_thrown hI hN  h_mo k36) zk_t5_0 zk_t5_1 zk_t5_2 zk_t1_6 zk_t5_3 hd_X7_thrown rfl ⟨rfl, rfl, Nat.le_of_ble_eq_true rfl, Nat.le_of_ble_eq_true rfl⟩ ⟨g_c, g_s⟩ hk_mo h_mo rfl rfl rfl (Nat.le_of_ble_eq_true rfl) dL_law_809 (fun q38 σ37 Hσ37 lσ37 hp hH => ?_)
  obtain ⟨hr1, hs1⟩ := hp; replace hr1 := hr1.symm; subst hr1; rw [hs1] at hH
  refine lv_iload hx hb dL_law_812 (lv_at hl 1 rfl) ?_
  obtain ⟨k39, hf⟩ := zck_some hf
  refine lz_icmp_eq (tgt := 819) hx hb k39 dL_law_814 (by decide) (fun c40 => ?_) (fun c40 => ?_)
  · replace hf := (if_pos c40).symm.trans hf
    refine lv_iload hx hb dL_law_819 (lv_at hl 1 rfl) ?_
    obtain ⟨k41, hf⟩ := zck_some hf
    refine lz_if_ne (tgt := 857) hx hb k41 dL_law_821 (by decide) (fun c42 => ?_) (fun c42 => ?_)
    · replace hf := (if_neg c42).symm.trans hf
      refine lv_goto (tgt := 1430) hx hb dL_law_857 (by decide) ?_
      cases hf
      exact kk _ _ _ _ _ (by omega) (by omega) hH h_ra h_ra_cells h_mo h_mo_pointX h_mo_pointY h_mo_crossing h_mo_kind h_mo_byX h_mo_byY h_mo_fieldOf h_mo_isSewn h_mo_isTouched h_lw_outD h_FF hbg _ (lv_sub hl [2, 3, 4, 5, 6, 7] rfl)
    · replace hf := (if_pos c42).symm.trans hf
      refine lv_aload hx hb dL_law_824 (lv_at hl 6 rfl) ?_
      obtain ⟨k43, hf⟩ := zck_some hf
      refine lv_iconst (v := zI 0) hx hb dL_law_826 (by decide +kernel) ?_
      refine zdald hx hb hK hH hk_outD h_lw_outD rfl dL_law_827 ?_
      refine lv_fload hx hb dL_law_828 (lv_at hl 0 rfl) ?_
      refine lv_f2d hx hb dL_law_830 k43.1 ?_
      refine lv_dcmp hx hb dL_law_831 ?_
      rw [k43.2.1, show Op.cmpValue (FP.dcmp u10 u10) .l = zI 0 from k43.2.2]
      refine lz_if_eq (tgt := 857) hx hb (by decide) dL_law_832 (by decide) (fun _ => ?_) (fun z => absurd rfl z)
      refine lv_goto (tgt := 1430) hx hb dL_law_857 (by decide) ?_
      cases hf
      exact kk _ _ _ _ _ (by omega) (by omega) hH h_ra h_ra_cells h_mo h_mo_pointX h_mo_pointY h_mo_crossing h_mo_kind h_mo_byX h_mo_byY h_mo_fieldOf h_mo_isSewn h_mo_isTouched h_lw_outD h_FF hbg _ (lv_sub hl [2, 3, 4, 5, 6, 7] rfl)
  · replace hf := (if_neg c40).symm.trans hf
    refine lv_iconst (v := zI 0) hx hb dL_law_817 (by decide +kernel) ?_
    cases hf
def f_law_touched (sp_fieldCount : Int) (F_fd_column : Int → Int) (F_fd_cornerXs : Int → Int → Int) (F_fd_cornerYs : Int → Int → Int) (F_fd_crossings : Int → Int → Int) (F_fd_cornerCount : Int → Int) (F_fd_crossingCount : Int → Int) (F_fd_density : Int → Int) (F_fd_length : Int → Int) (F_fd_shift : Int → Int) (F_fd_pull : Int → Int) (F_fd_underlay : Int → Int) (F_fd_drawn : Int → Int) (F_pt_xs : Int → Int → Int) (F_pt_ys : Int → Int → Int) (F_pt_size : Int → Int) (ra_cells : Int → Int) (ra_cellCount : Int) (mo_fields : Int) (mo_colour : Int → Int) (mo_layer : Int → Int) (mo_isColumn : Int → Int) (mo_corners : Int → Int) (mo_cornerX : Int → Int) (mo_cornerY : Int → Int) (mo_density : Int → Int) (mo_longest : Int → Int) (mo_shift : Int → Int) (mo_pull : Int → Int) (mo_hasUnderlay : Int → Int) (mo_bound : Int) (mo_pointX : Int → Int) (mo_pointY : Int → Int) (mo_points : Int) (mo_crossing : Int → Int) (mo_crossings : Int) (mo_isKnown : Int) (mo_commands : Int) (mo_kind : Int → Int) (mo_byX : Int → Int) (mo_byY : Int → Int) (mo_fieldOf : Int → Int) (mo_needleX : Int) (mo_needleY : Int) (mo_isSewn : Int → Int) (mo_isTouched : Int → Int) (mo_thrown : Int) (mo_rowY : Int) (lw_out : Int) (nF : Int) (w1 : Int) : Option ((Int → Int → Int) × (Int → Int) × (Int → Int) × (Int → Int → Int) × (Int → Int → Int) × (Int → Int) × (Int → Int) × Int × (Int → Int) × (Int → Int) × Int × (Int → Int) × Int × Int × Int × (Int → Int) × (Int → Int) × (Int → Int) × (Int → Int) × Int × Int × (Int → Int) × (Int → Int) × Int × Int × Int) :=
  zb10 (f_L_touched sp_fieldCount F_fd_column F_fd_cornerXs F_fd_cornerYs F_fd_crossings F_fd_cornerCount F_fd_crossingCount F_fd_density F_fd_length F_fd_shift F_fd_pull F_fd_underlay F_fd_drawn F_pt_xs F_pt_ys F_pt_size ra_cells ra_cellCount nF w1 lw_out) fun r1 u2 u3 u4 u5 u6 u7 u8 u9 u10 =>
  zb18 (f_X7_touched mo_fields mo_colour mo_layer mo_isColumn mo_corners mo_cornerX mo_cornerY mo_density mo_longest mo_shift mo_pull mo_hasUnderlay mo_bound mo_pointX mo_pointY mo_points mo_crossing mo_crossings mo_isKnown mo_commands mo_kind mo_byX mo_byY mo_fieldOf mo_needleX mo_needleY mo_isSewn mo_isTouched mo_thrown mo_rowY w1) fun r14 a15 a16 u17 a18 u19 u20 u21 a22 a23 a24 a25 u26 u27 a28 a29 u30 u31 =>
  zb1 (f_X7_thrown u30) fun r35 =>
  zck (zR r35 ∧ zR r1) <|
  if r35 = r1 then
    zck (zR r1) <|
    if r1 = 0 then
      zck (zR u10 ∧ zR r14) <|
      if u10 = r14 then
        some (u2, u3, u4, u5, u6, u7, u8, u9, a15, a16, u17, a18, u19, u20, u21, a22, a23, a24, a25, u26, u27, a28, a29, u30, u31, u10)
      else
        none
    else
      some (u2, u3, u4, u5, u6, u7, u8, u9, a15, a16, u17, a18, u19, u20, u21, a22, a23, a24, a25, u26, u27, a28, a29, u30, u31, u10)
  else
    none
set_option maxHeartbeats 4000000 in
set_option maxRecDepth 100000 in
theorem w_law_touched {p : Program} {l : Launch} {e : Env} {s : State} {m : MethodId} {args : Array Value} {below : List Frame} {meth : Method} {c : Code} {Q : State → Prop} {D : va_G} {cI cZ cF cL cD : ClassId} {b L : Nat} {xs : Nat → Int32} {A : Nat → Prop} (hx : p.tables.exec = Jvm.exec) (hb : c.code = code) (hml : c.maxLocals = 10) (hown : s.vm.findClass RL = some m.cls) (hts : ∀ w ∈ wsL_law, w.before args s = true) (hst : l.stackTraces = false) (hNc : zNc s) (hX0 : va_X b L xs s s.heap) (hbl : b < s.heap.size) (hbA : ¬ A b) (hA : ∀ q, s.heap.size ≤ q → A q) (hK : zK D (zT cI cZ cF cL cD) s) (hXs : zXs A s s.heap) (hL : L ≤ 3584)
    {ad : Nat → Nat} {N : Nat} {nF : Int} (hN : 46 ≤ N) (hNF : N = 46 + 7 * nF.toNat) {σ0 : Nat → va_E} {H : Heap} {locs : List Loc} {cells slots : Nat} (hH : zH D ad N A s.heap σ0 H locs) {sp_fieldCount : Int} {sp_trimBound : Int} {sp_planned : Int} {F_fd_colour : Int → Int} {F_fd_layer : Int → Int} {F_fd_column : Int → Int} {F_fd_cornerXs : Int → Int → Int} {F_fd_cornerYs : Int → Int → Int} {F_fd_crossings : Int → Int → Int} {F_fd_cornerCount : Int → Int} {F_fd_crossingCount : Int → Int} {F_fd_density : Int → Int} {F_fd_length : Int → Int} {F_fd_shift : Int → Int} {F_fd_pull : Int → Int} {F_fd_underlay : Int → Int} {F_fd_drawn : Int → Int} {F_pt_xs : Int → Int → Int} {F_pt_ys : Int → Int → Int} {F_pt_size : Int → Int} {ra_cells : Int → Int} {ra_cellCount : Int} {mo_fields : Int} {mo_colour : Int → Int} {mo_layer : Int → Int} {mo_isColumn : Int → Int} {mo_corners : Int → Int} {mo_cornerX : Int → Int} {mo_cornerY : Int → Int} {mo_density : Int → Int} {mo_longest : Int → Int} {mo_shift : Int → Int} {mo_pull : Int → Int} {mo_hasUnderlay : Int → Int} {mo_bound : Int} {mo_pointX : Int → Int} {mo_pointY : Int → Int} {mo_points : Int} {mo_crossing : Int → Int} {mo_crossings : Int} {mo_isKnown : Int} {mo_commands : Int} {mo_kind : Int → Int} {mo_byX : Int → Int} {mo_byY : Int → Int} {mo_fieldOf : Int → Int} {mo_needleX : Int} {mo_needleY : Int} {mo_isSewn : Int → Int} {mo_isTouched : Int → Int} {mo_hasFile : Int} {mo_format : Int} {mo_length : Int} {mo_heads : Int} {mo_late : Int} {mo_ran : Int} {mo_program : Int} {mo_thrown : Int} {mo_rowY : Int} {mo_stitches : Int} {lw_out : Int} {R_F_fd_crossings : Int → Int → Int} {R_F_fd_crossingCount : Int → Int} {R_F_fd_drawn : Int → Int} {R_F_pt_xs : Int → Int → Int} {R_F_pt_ys : Int → Int → Int} {R_F_pt_size : Int → Int} {R_ra_cells : Int → Int} {R_ra_cellCount : Int} {R_mo_pointX : Int → Int} {R_mo_pointY : Int → Int} {R_mo_points : Int} {R_mo_crossing : Int → Int} {R_mo_crossings : Int} {R_mo_isKnown : Int} {R_mo_commands : Int} {R_mo_kind : Int → Int} {R_mo_byX : Int → Int} {R_mo_byY : Int → Int} {R_mo_fieldOf : Int → Int} {R_mo_needleX : Int} {R_mo_needleY : Int} {R_mo_isSewn : Int → Int} {R_mo_isTouched : Int → Int} {R_mo_thrown : Int} {R_mo_rowY : Int} {R_lw_out : Int} (h_sp : σ0 0 = oC_sp ad sp_fieldCount sp_trimBound sp_planned) (h_sp_fields : σ0 1 = .inl (cF, 8, .inr (.inr (.inr (.inr (zFA ad nF)))))) (h_ra : σ0 10 = oC_ra ad ra_cellCount) (h_ra_cells : σ0 11 = .inl (cZ, 1024, .inl (zA ra_cells))) (h_mo : σ0 19 = oC_mo ad mo_fields mo_bound mo_points mo_crossings mo_isKnown mo_commands mo_needleX mo_needleY mo_hasFile mo_format mo_length mo_heads mo_late mo_ran mo_program mo_thrown mo_rowY mo_stitches) (h_mo_colour : σ0 20 = .inl (cI, 8, .inl (zA mo_colour))) (h_mo_layer : σ0 21 = .inl (cI, 8, .inl (zA mo_layer))) (h_mo_isColumn : σ0 22 = .inl (cZ, 8, .inl (zA mo_isColumn))) (h_mo_corners : σ0 23 = .inl (cI, 8, .inl (zA mo_corners))) (h_mo_cornerX : σ0 24 = .inl (cI, 64, .inl (zA mo_cornerX))) (h_mo_cornerY : σ0 25 = .inl (cI, 64, .inl (zA mo_cornerY))) (h_mo_density : σ0 26 = .inl (cI, 8, .inl (zA mo_density))) (h_mo_longest : σ0 27 = .inl (cI, 8, .inl (zA mo_longest))) (h_mo_shift : σ0 28 = .inl (cI, 8, .inl (zA mo_shift))) (h_mo_pull : σ0 29 = .inl (cI, 8, .inl (zA mo_pull))) (h_mo_hasUnderlay : σ0 30 = .inl (cZ, 8, .inl (zA mo_hasUnderlay))) (h_mo_pointX : σ0 31 = .inl (cI, 4096, .inl (zA mo_pointX))) (h_mo_pointY : σ0 32 = .inl (cI, 4096, .inl (zA mo_pointY))) (h_mo_crossing : σ0 33 = .inl (cI, 8, .inl (zA mo_crossing))) (h_mo_kind : σ0 34 = .inl (cI, 20000, .inl (zA mo_kind))) (h_mo_byX : σ0 35 = .inl (cI, 20000, .inl (zA mo_byX))) (h_mo_byY : σ0 36 = .inl (cI, 20000, .inl (zA mo_byY))) (h_mo_fieldOf : σ0 37 = .inl (cI, 20000, .inl (zA mo_fieldOf))) (h_mo_isSewn : σ0 38 = .inl (cZ, 8, .inl (zA mo_isSewn))) (h_mo_isTouched : σ0 39 = .inl (cZ, 1024, .inl (zA mo_isTouched))) (h_lw_out : zO cL σ0 lw_out) (h_FF : zFF ad cI nF σ0 F_fd_colour F_fd_layer F_fd_column F_fd_cornerXs F_fd_cornerYs F_fd_crossings F_fd_cornerCount F_fd_crossingCount F_fd_density F_fd_length F_fd_shift F_fd_pull F_fd_underlay F_fd_drawn F_pt_xs F_pt_ys F_pt_size) {ii : Int} (hiL : 0 ≤ ii ∧ ii + 7 ≤ L) {w1 : Int} (hw1 : xs (ii.toNat + 1) = zI w1) (hR1 : zR w1) (hcs : cells + 9 ≤ 83562 ∧ slots + 4300 ≤ 8845420) {ls : Array Slot} (hl : lv_has ls 10 [(0, .ref b), (1, .ref (ad 0)), (2, .ref (ad 19)), (3, .ref (ad 44)), (4, .ref (ad 45)), (5, .int (zI ii))]) (hf : f_law_touched sp_fieldCount F_fd_column F_fd_cornerXs F_fd_cornerYs F_fd_crossings F_fd_cornerCount F_fd_crossingCount F_fd_density F_fd_length F_fd_shift F_fd_pull F_fd_underlay F_fd_drawn F_pt_xs F_pt_ys F_pt_size ra_cells ra_cellCount mo_fields mo_colour mo_layer mo_isColumn mo_corners mo_cornerX mo_cornerY mo_density mo_longest mo_shift mo_pull mo_hasUnderlay mo_bound mo_pointX mo_pointY mo_points mo_crossing mo_crossings mo_isKnown mo_commands mo_kind mo_byX mo_byY mo_fieldOf mo_needleX mo_needleY mo_isSewn mo_isTouched mo_thrown mo_rowY lw_out nF w1 = some (R_F_fd_crossings, R_F_fd_crossingCount, R_F_fd_drawn, R_F_pt_xs, R_F_pt_ys, R_F_pt_size, R_ra_cells, R_ra_cellCount, R_mo_pointX, R_mo_pointY, R_mo_points, R_mo_crossing, R_mo_crossings, R_mo_isKnown, R_mo_commands, R_mo_kind, R_mo_byX, R_mo_byY, R_mo_fieldOf, R_mo_needleX, R_mo_needleY, R_mo_isSewn, R_mo_isTouched, R_mo_thrown, R_mo_rowY, R_lw_out))
    (kk : ∀ (σ : Nat → va_E) (H : Heap) (locs : List Loc) (cells1 slots1 : Nat), cells1 ≤ cells + 9 → slots1 ≤ slots + 4300 → zH D ad N A s.heap σ H locs → ∀ (h_ra : σ 10 = oC_ra ad R_ra_cellCount) (h_ra_cells : σ 11 = .inl (cZ, 1024, .inl (zA R_ra_cells))) (h_mo : σ 19 = oC_mo ad mo_fields mo_bound R_mo_points R_mo_crossings R_mo_isKnown R_mo_commands R_mo_needleX R_mo_needleY mo_hasFile mo_format mo_length mo_heads mo_late mo_ran mo_program R_mo_thrown R_mo_rowY mo_stitches) (h_mo_pointX : σ 31 = .inl (cI, 4096, .inl (zA R_mo_pointX))) (h_mo_pointY : σ 32 = .inl (cI, 4096, .inl (zA R_mo_pointY))) (h_mo_crossing : σ 33 = .inl (cI, 8, .inl (zA R_mo_crossing))) (h_mo_kind : σ 34 = .inl (cI, 20000, .inl (zA R_mo_kind))) (h_mo_byX : σ 35 = .inl (cI, 20000, .inl (zA R_mo_byX))) (h_mo_byY : σ 36 = .inl (cI, 20000, .inl (zA R_mo_byY))) (h_mo_fieldOf : σ 37 = .inl (cI, 20000, .inl (zA R_mo_fieldOf))) (h_mo_isSewn : σ 38 = .inl (cZ, 8, .inl (zA R_mo_isSewn))) (h_mo_isTouched : σ 39 = .inl (cZ, 1024, .inl (zA R_mo_isTouched))) (h_lw_out : zO cL σ R_lw_out) (h_FF : zFF ad cI nF σ F_fd_colour F_fd_layer F_fd_column F_fd_cornerXs F_fd_cornerYs R_F_fd_crossings F_fd_cornerCount R_F_fd_crossingCount F_fd_density F_fd_length F_fd_shift F_fd_pull F_fd_underlay R_F_fd_drawn R_F_pt_xs R_F_pt_ys R_F_pt_size), ∀ (hbg : ∀ i : Nat, i < 46 → i ≠ 10 → i ≠ 11 → i ≠ 19 → i ≠ 31 → i ≠ 32 → i ≠ 33 → i ≠ 34 → i ≠ 35 → i ≠ 36 → i ≠ 37 → i ≠ 38 → i ≠ 39 → i ≠ 44 → σ i = σ0 i) (ls : Array Slot), lv_has ls 10 [(0, .ref b), (1, .ref (ad 0)), (2, .ref (ad 19)), (3, .ref (ad 44)), (4, .ref (ad 45)), (5, .int (zI ii))] → W p l e room_1 s m args below meth c H locs cells1 slots1 Q (F0 m 1430 ls [])) : W p l e room_1 s m args below meth c H locs cells slots Q (F0 m 860 ls []) := by
  have hI := zD_inj hH.2.1
  have g_c : cells ≤ 83562 := by omega
  have g_s : slots ≤ 8845420 := by omega
  have hk_out : 44 < N := by omega
  have hk_outD : 45 < N := by omega
  have hk_sp : 0 < N := by omega
  have hk_sp_fields : 1 < N := by omega
  have hk_ra : 10 < N := by omega
  have hk_ra_cells : 11 < N := by omega
  have hk_mo : 19 < N := by omega
  have hk_mo_colour : 20 < N := by omega
  have hk_mo_layer : 21 < N := by omega
  have hk_mo_isColumn : 22 < N := by omega
  have hk_mo_corners : 23 < N := by omega
  have hk_mo_cornerX : 24 < N := by omega
  have hk_mo_cornerY : 25 < N := by omega
  have hk_mo_density : 26 < N := by omega
  have hk_mo_longest : 27 < N := by omega
  have hk_mo_shift : 28 < N := by omega
  have hk_mo_pull : 29 < N := by omega
  have hk_mo_hasUnderlay : 30 < N := by omega
  have hk_mo_pointX : 31 < N := by omega
  have hk_mo_pointY : 32 < N := by omega
  have hk_mo_crossing : 33 < N := by omega
  have hk_mo_kind : 34 < N := by omega
  have hk_mo_byX : 35 < N := by omega
  have hk_mo_byY : 36 < N := by omega
  have hk_mo_fieldOf : 37 < N := by omega
  have hk_mo_isSewn : 38 < N := by omega
  have hk_mo_isTouched : 39 < N := by omega
  have hbg : ∀ i : Nat, i < 46 → i ≠ 10 → i ≠ 11 → i ≠ 19 → i ≠ 31 → i ≠ 32 → i ≠ 33 → i ≠ 34 → i ≠ 35 → i ≠ 36 → i ≠ 37 → i ≠ 38 → i ≠ 39 → i ≠ 44 → σ0 i = σ0 i := fun _ _ _ _ _ _ _ _ _ _ _ _ _ _ _ => rfl
  unfold f_law_touched at hf
  refine lv_aload_n hx hb dL_law_860 rfl (lv_at hl 1 rfl) ?_
  refine lv_aload_n hx hb dL_law_861 rfl (lv_at hl 0 rfl) ?_
  refine lv_iload hx hb dL_law_862 (lv_at hl 5 rfl) ?_
  refine lv_iconst (v := zI 1) hx hb dL_law_864 (by decide +kernel) ?_
  refine lz_iadd hx hb dL_law_865 ?_
  refine lz_sld hx hb hX0 hbl hbA hH.2.2 hiL hL 1 (by decide) hw1 dL_law_866 ?_
  refine lv_aload_n hx hb dL_law_867 rfl (lv_at hl 3 rfl) ?_
  obtain ⟨r1, u2, u3, u4, u5, u6, u7, u8, u9, u10, k11, hf⟩ := zb10_some hf
  refine zcH (As := [.ref (ad 0), .int (zI w1), .ref (ad 44)]) (rest := []) hx hb hml hown hts hl.1 hK hH hA (hXs.kept hH.2.2.2.1) hNc (c_L_touched (zD_inj hH.2.1) hN hNF hst h_sp h_sp_fields h_ra h_ra_cells h_FF h_lw_out k11) zk_t3_204 zk_t3_205 zk_t1_0 zk_t3_206 hd_L_touched rfl ⟨rfl, rfl, Nat.le_of_ble_eq_true rfl, Nat.le_of_ble_eq_true rfl⟩ ⟨by show _ ≤ 83562; omega, by show _ ≤ 8845420; omega⟩ rfl (Nat.le_of_ble_eq_true rfl) dL_law_868 (fun q13 σ12 Hσ12 lσ12 hp hH => ?_)
  obtain ⟨hr1, h_ra, h_ra_cells, h_FF, h_lw_out, hn⟩ := hp
  subst hr1
  have h_sp := (hn 0 (by decide) (by decide) (by decide) (by decide)).trans h_sp
  have h_sp_fields := (hn 1 (by decide) (by decide) (by decide) (by decide)).trans h_sp_fields
  have h_mo := (hn 19 (by decide) (by decide) (by decide) (by decide)).trans h_mo
  have h_mo_colour := (hn 20 (by decide) (by decide) (by decide) (by decide)).trans h_mo_colour
  have h_mo_layer := (hn 21 (by decide) (by decide) (by decide) (by decide)).trans h_mo_layer
  have h_mo_isColumn := (hn 22 (by decide) (by decide) (by decide) (by decide)).trans h_mo_isColumn
  have h_mo_corners := (hn 23 (by decide) (by decide) (by decide) (by decide)).trans h_mo_corners
  have h_mo_cornerX := (hn 24 (by decide) (by decide) (by decide) (by decide)).trans h_mo_cornerX
  have h_mo_cornerY := (hn 25 (by decide) (by decide) (by decide) (by decide)).trans h_mo_cornerY
  have h_mo_density := (hn 26 (by decide) (by decide) (by decide) (by decide)).trans h_mo_density
  have h_mo_longest := (hn 27 (by decide) (by decide) (by decide) (by decide)).trans h_mo_longest
  have h_mo_shift := (hn 28 (by decide) (by decide) (by decide) (by decide)).trans h_mo_shift
  have h_mo_pull := (hn 29 (by decide) (by decide) (by decide) (by decide)).trans h_mo_pull
  have h_mo_hasUnderlay := (hn 30 (by decide) (by decide) (by decide) (by decide)).trans h_mo_hasUnderlay
  have h_mo_pointX := (hn 31 (by decide) (by decide) (by decide) (by decide)).trans h_mo_pointX
  have h_mo_pointY := (hn 32 (by decide) (by decide) (by decide) (by decide)).trans h_mo_pointY
  have h_mo_crossing := (hn 33 (by decide) (by decide) (by decide) (by decide)).trans h_mo_crossing
  have h_mo_kind := (hn 34 (by decide) (by decide) (by decide) (by decide)).trans h_mo_kind
  have h_mo_byX := (hn 35 (by decide) (by decide) (by decide) (by decide)).trans h_mo_byX
  have h_mo_byY := (hn 36 (by decide) (by decide) (by decide) (by decide)).trans h_mo_byY
  have h_mo_fieldOf := (hn 37 (by decide) (by decide) (by decide) (by decide)).trans h_mo_fieldOf
  have h_mo_isSewn := (hn 38 (by decide) (by decide) (by decide) (by decide)).trans h_mo_isSewn
  have h_mo_isTouched := (hn 39 (by decide) (by decide) (by decide) (by decide)).trans h_mo_isTouched
  have hbg : ∀ i : Nat, i < 46 → i ≠ 10 → i ≠ 11 → i ≠ 19 → i ≠ 31 → i ≠ 32 → i ≠ 33 → i ≠ 34 → i ≠ 35 → i ≠ 36 → i ≠ 37 → i ≠ 38 → i ≠ 39 → i ≠ 44 → σ12 i = σ0 i := fun i h46 a0 a1 a2 a3 a4 a5 a6 a7 a8 a9 a10 a11 a12 => (hn i h46 a0 a1 a12).trans (hbg i h46 a0 a1 a2 a3 a4 a5 a6 a7 a8 a9 a10 a11 a12)
  have g_c : cells + 1 ≤ 83562 := by omega
  have g_s : slots + 6 ≤ 8845420 := by omega
  refine lv_istore (lv' := [(6, .int (zI r1)), (0, .ref b), (1, .ref (ad 0)), (2, .ref (ad 19)), (3, .ref (ad 44)), (4, .ref (ad 45)), (5, .int (zI ii))]) hx hb dL_law_871 hl (by decide) rfl (fun ls hl => ?_)
  refine lv_aload_n hx hb dL_law_873 rfl (lv_at hl 3 rfl) ?_
  refine lv_aload_n hx hb dL_law_874 rfl (lv_at hl 1 rfl) ?_
  refine lv_iload hx hb dL_law_875 (lv_at hl 6 rfl) ?_
  refine lv_iconst (v := zI 1) hx hb dL_law_877 (by decide +kernel) ?_
  refine lz_iadd hx hb dL_law_878 ?_
  refine lz_sld hx hb hX0 hbl hbA hH.2.2 hiL hL 1 (by decide) hw1 dL_law_879 ?_
  obtain ⟨r14, a15, a16, u17, a18, u19, u20, u21, a22, a23, a24, a25, u26, u27, a28, a29, u30, u31, k32, hf⟩ := zb18_some hf
  refine zcVi (C := RX7) (As := [.int (zI w1)]) (rest := []) hx hb hml hown hts hl.1 hK hH hA (c_X7_touched hI hN  h_mo h_mo_colour h_mo_layer h_mo_isColumn h_mo_corners h_mo_cornerX h_mo_cornerY h_mo_density h_mo_longest h_mo_shift h_mo_pull h_mo_hasUnderlay h_mo_pointX h_mo_pointY h_mo_crossing h_mo_kind h_mo_byX h_mo_byY h_mo_fieldOf h_mo_isSewn h_mo_isTouched k32) zk_t5_147 zk_t5_148 zk_t5_149 zk_t1_6 zk_t5_150 hd_X7_touched rfl ⟨rfl, rfl, Nat.le_of_ble_eq_true rfl, Nat.le_of_ble_eq_true rfl⟩ ⟨g_c, g_s⟩ hk_mo h_mo rfl rfl rfl (Nat.le_of_ble_eq_true rfl) dL_law_880 (fun q34 σ33 Hσ33 lσ33 hp hH => ?_)
  obtain ⟨hr1, h_mo, h_mo_pointX, h_mo_pointY, h_mo_crossing, h_mo_kind, h_mo_byX, h_mo_byY, h_mo_fieldOf, h_mo_isSewn, h_mo_isTouched, hn⟩ := hp
  replace hr1 := hr1.symm; subst hr1
  have h_sp := (hn 0 (by decide) (by decide) (by decide) (by decide) (by decide) (by decide) (by decide) (by decide) (by decide) (by decide)).trans h_sp
  have h_sp_fields := (hn 1 (by decide) (by decide) (by decide) (by decide) (by decide) (by decide) (by decide) (by decide) (by decide) (by decide)).trans h_sp_fields
  have h_ra := (hn 10 (by decide) (by decide) (by decide) (by decide) (by decide) (by decide) (by decide) (by decide) (by decide) (by decide)).trans h_ra
  have h_ra_cells := (hn 11 (by decide) (by decide) (by decide) (by decide) (by decide) (by decide) (by decide) (by decide) (by decide) (by decide)).trans h_ra_cells
  have h_mo_colour := (hn 20 (by decide) (by decide) (by decide) (by decide) (by decide) (by decide) (by decide) (by decide) (by decide) (by decide)).trans h_mo_colour
  have h_mo_layer := (hn 21 (by decide) (by decide) (by decide) (by decide) (by decide) (by decide) (by decide) (by decide) (by decide) (by decide)).trans h_mo_layer
  have h_mo_isColumn := (hn 22 (by decide) (by decide) (by decide) (by decide) (by decide) (by decide) (by decide) (by decide) (by decide) (by decide)).trans h_mo_isColumn
  have h_mo_corners := (hn 23 (by decide) (by decide) (by decide) (by decide) (by decide) (by decide) (by decide) (by decide) (by decide) (by decide)).trans h_mo_corners
  have h_mo_cornerX := (hn 24 (by decide) (by decide) (by decide) (by decide) (by decide) (by decide) (by decide) (by decide) (by decide) (by decide)).trans h_mo_cornerX
  have h_mo_cornerY := (hn 25 (by decide) (by decide) (by decide) (by decide) (by decide) (by decide) (by decide) (by decide) (by decide) (by decide)).trans h_mo_cornerY
  have h_mo_density := (hn 26 (by decide) (by decide) (by decide) (by decide) (by decide) (by decide) (by decide) (by decide) (by decide) (by decide)).trans h_mo_density
  have h_mo_longest := (hn 27 (by decide) (by decide) (by decide) (by decide) (by decide) (by decide) (by decide) (by decide) (by decide) (by decide)).trans h_mo_longest
  have h_mo_shift := (hn 28 (by decide) (by decide) (by decide) (by decide) (by decide) (by decide) (by decide) (by decide) (by decide) (by decide)).trans h_mo_shift
  have h_mo_pull := (hn 29 (by decide) (by decide) (by decide) (by decide) (by decide) (by decide) (by decide) (by decide) (by decide) (by decide)).trans h_mo_pull
  have h_mo_hasUnderlay := (hn 30 (by decide) (by decide) (by decide) (by decide) (by decide) (by decide) (by decide) (by decide) (by decide) (by decide)).trans h_mo_hasUnderlay
  have h_FF := zFF_keep (fun i hi => hn i (by omega) (by omega) (by omega) (by omega) (by omega) (by omega) (by omega) (by omega) (by omega) (by omega)) h_FF
  have hbg : ∀ i : Nat, i < 46 → i ≠ 10 → i ≠ 11 → i ≠ 19 → i ≠ 31 → i ≠ 32 → i ≠ 33 → i ≠ 34 → i ≠ 35 → i ≠ 36 → i ≠ 37 → i ≠ 38 → i ≠ 39 → i ≠ 44 → σ33 i = σ0 i := fun i h46 a0 a1 a2 a3 a4 a5 a6 a7 a8 a9 a10 a11 a12 => (hn i a2 a3 a4 a5 a6 a7 a8 a9 a10 a11).trans (hbg i h46 a0 a1 a2 a3 a4 a5 a6 a7 a8 a9 a10 a11 a12)
  have h_lw_out := zO_keep h_lw_out (hn 44 (by decide) (by decide) (by decide) (by decide) (by decide) (by decide) (by decide) (by decide) (by decide) (by decide))
  refine lv_istore (lv' := [(7, .int (zI r14)), (6, .int (zI r1)), (0, .ref b), (1, .ref (ad 0)), (2, .ref (ad 19)), (3, .ref (ad 44)), (4, .ref (ad 45)), (5, .int (zI ii))]) hx hb dL_law_883 hl (by decide) rfl (fun ls hl => ?_)
  refine lv_aload_n hx hb dL_law_885 rfl (lv_at hl 4 rfl) ?_
  obtain ⟨r35, k36, hf⟩ := zb1_some hf
  refine zcVi (C := RX7) (As := []) (rest := []) hx hb hml hown hts hl.1 hK hH hA (c_X7_thrown hI hN  h_mo k36) zk_t5_0 zk_t5_1 zk_t5_2 zk_t1_6 zk_t5_3 hd_X7_thrown rfl ⟨rfl, rfl, Nat.le_of_ble_eq_true rfl, Nat.le_of_ble_eq_true rfl⟩ ⟨g_c, g_s⟩ hk_mo h_mo rfl rfl rfl (Nat.le_of_ble_eq_true rfl) dL_law_886 (fun q38 σ37 Hσ37 lσ37 hp hH => ?_)
  obtain ⟨hr1, hs1⟩ := hp; replace hr1 := hr1.symm; subst hr1; rw [hs1] at hH
  refine lv_iload hx hb dL_law_889 (lv_at hl 1 rfl) ?_
  obtain ⟨k39, hf⟩ := zck_some hf
  refine lz_icmp_eq (tgt := 896) hx hb k39 dL_law_891 (by decide) (fun c40 => ?_) (fun c40 => ?_)
  · replace hf := (if_pos c40).symm.trans hf
    refine lv_iload hx hb dL_law_896 (lv_at hl 1 rfl) ?_
    obtain ⟨k41, hf⟩ := zck_some hf
    refine lz_if_ne (tgt := 913) hx hb k41 dL_law_898 (by decide) (fun c42 => ?_) (fun c42 => ?_)
    · replace hf := (if_neg c42).symm.trans hf
      refine lv_goto (tgt := 1430) hx hb dL_law_913 (by decide) ?_
      cases hf
      exact kk _ _ _ _ _ (by omega) (by omega) hH h_ra h_ra_cells h_mo h_mo_pointX h_mo_pointY h_mo_crossing h_mo_kind h_mo_byX h_mo_byY h_mo_fieldOf h_mo_isSewn h_mo_isTouched h_lw_out h_FF hbg _ (lv_sub hl [2, 3, 4, 5, 6, 7] rfl)
    · replace hf := (if_pos c42).symm.trans hf
      refine lv_aload_n hx hb dL_law_901 rfl (lv_at hl 5 rfl) ?_
      refine lv_iconst (v := zI 0) hx hb dL_law_902 (by decide +kernel) ?_
      refine zlald hx hb hK hH hk_out h_lw_out rfl dL_law_903 ?_
      refine lv_iload hx hb dL_law_904 (lv_at hl 0 rfl) ?_
      refine lv_i2l hx hb dL_law_906 rfl ?_
      obtain ⟨k43, hf⟩ := zck_some hf
      refine lz_lcmpeq (tgt := 913) hx hb k43 dL_law_907 dL_law_908 (by decide) (fun c44 => ?_) (fun c44 => ?_)
      · replace hf := (if_pos c44).symm.trans hf
        refine lv_goto (tgt := 1430) hx hb dL_law_913 (by decide) ?_
        cases hf
        exact kk _ _ _ _ _ (by omega) (by omega) hH h_ra h_ra_cells h_mo h_mo_pointX h_mo_pointY h_mo_crossing h_mo_kind h_mo_byX h_mo_byY h_mo_fieldOf h_mo_isSewn h_mo_isTouched h_lw_out h_FF hbg _ (lv_sub hl [2, 3, 4, 5, 6, 7] rfl)
      · replace hf := (if_neg c44).symm.trans hf
        refine lv_iconst (v := zI 0) hx hb dL_law_911 (by decide +kernel) ?_
        cases hf
  · replace hf := (if_neg c40).symm.trans hf
    refine lv_iconst (v := zI 0) hx hb dL_law_894 (by decide +kernel) ?_
    cases hf
def f_law_write (sp_waiting : Int → Int) (sp_trimBound : Int) (sp_planned : Int) (F_fd_colour : Int → Int) (F_fd_layer : Int → Int) (F_fd_column : Int → Int) (F_fd_cornerXs : Int → Int → Int) (F_fd_cornerYs : Int → Int → Int) (F_fd_crossings : Int → Int → Int) (F_fd_cornerCount : Int → Int) (F_fd_crossingCount : Int → Int) (F_fd_density : Int → Int) (F_fd_length : Int → Int) (F_fd_shift : Int → Int) (F_fd_pull : Int → Int) (F_fd_underlay : Int → Int) (F_fd_drawn : Int → Int) (F_pt_xs : Int → Int → Int) (F_pt_ys : Int → Int → Int) (F_pt_size : Int → Int) (pl_kinds : Int → Int) (pl_differencesX : Int → Int) (pl_differencesY : Int → Int) (pl_owners : Int → Int) (pl_kindCounts : Int → Int) (pl_threads : Int → Int) (pl_size : Int) (pl_seconds : UInt32) (pl_needleX : Int) (pl_needleY : Int) (pl_colour : Int) (pa_bytes : Int → Int) (pa_size : Int) (pa_format : Int) (mo_fields : Int) (mo_colour : Int → Int) (mo_layer : Int → Int) (mo_isColumn : Int → Int) (mo_corners : Int → Int) (mo_cornerX : Int → Int) (mo_cornerY : Int → Int) (mo_density : Int → Int) (mo_longest : Int → Int) (mo_shift : Int → Int) (mo_pull : Int → Int) (mo_hasUnderlay : Int → Int) (mo_bound : Int) (mo_pointX : Int → Int) (mo_pointY : Int → Int) (mo_points : Int) (mo_crossing : Int → Int) (mo_crossings : Int) (mo_isKnown : Int) (mo_commands : Int) (mo_kind : Int → Int) (mo_byX : Int → Int) (mo_byY : Int → Int) (mo_fieldOf : Int → Int) (mo_needleX : Int) (mo_needleY : Int) (mo_isSewn : Int → Int) (mo_hasFile : Int) (mo_format : Int) (mo_length : Int) (mo_bytes : Int → Int) (mo_thrown : Int) (mo_rowY : Int) (lw_out : Int) (nF : Int) (w1 : Int) : Option ((Int → Int) × Int × (Int → Int → Int) × (Int → Int) × (Int → Int) × (Int → Int → Int) × (Int → Int → Int) × (Int → Int) × (Int → Int) × (Int → Int) × (Int → Int) × (Int → Int) × (Int → Int) × (Int → Int) × Int × UInt32 × Int × Int × Int × (Int → Int) × Int × Int × (Int → Int) × (Int → Int) × Int × (Int → Int) × Int × Int × Int × (Int → Int) × (Int → Int) × (Int → Int) × (Int → Int) × Int × Int × (Int → Int) × Int × Int × Int × (Int → Int) × Int × Int × Int) :=
  zb24 (f_L_write sp_waiting sp_trimBound sp_planned F_fd_colour F_fd_layer F_fd_column F_fd_cornerXs F_fd_cornerYs F_fd_crossings F_fd_cornerCount F_fd_crossingCount F_fd_density F_fd_length F_fd_shift F_fd_pull F_fd_underlay F_fd_drawn F_pt_xs F_pt_ys F_pt_size pl_kinds pl_differencesX pl_differencesY pl_owners pl_kindCounts pl_threads pl_size pl_seconds pl_needleX pl_needleY pl_colour pa_bytes pa_size pa_format nF w1 lw_out) fun r1 u2 u3 u4 u5 u6 u7 u8 u9 u10 u11 u12 u13 u14 u15 u16 u17 u18 u19 u20 u21 u22 u23 u24 =>
  zb21 (f_X7_write mo_fields mo_colour mo_layer mo_isColumn mo_corners mo_cornerX mo_cornerY mo_density mo_longest mo_shift mo_pull mo_hasUnderlay mo_bound mo_pointX mo_pointY mo_points mo_crossing mo_crossings mo_isKnown mo_commands mo_kind mo_byX mo_byY mo_fieldOf mo_needleX mo_needleY mo_isSewn mo_hasFile mo_format mo_length mo_bytes mo_thrown mo_rowY w1) fun r28 a29 a30 u31 a32 u33 u34 u35 a36 a37 a38 a39 u40 u41 a42 u43 u44 u45 a46 u47 u48 =>
  zb1 (f_X7_thrown u47) fun r52 =>
  zck (zR r52 ∧ zR r1) <|
  if r52 = r1 then
    zck (zR r1) <|
    if r1 = 0 then
      zck (zR u24 ∧ zR r28) <|
      if u24 = r28 then
        some (u2, u3, u4, u5, u6, u7, u8, u9, u10, u11, u12, u13, u14, u15, u16, u17, u18, u19, u20, u21, u22, u23, a29, a30, u31, a32, u33, u34, u35, a36, a37, a38, a39, u40, u41, a42, u43, u44, u45, a46, u47, u48, u24)
      else
        none
    else
      some (u2, u3, u4, u5, u6, u7, u8, u9, u10, u11, u12, u13, u14, u15, u16, u17, u18, u19, u20, u21, u22, u23, a29, a30, u31, a32, u33, u34, u35, a36, a37, a38, a39, u40, u41, a42, u43, u44, u45, a46, u47, u48, u24)
  else
    none
set_option maxHeartbeats 4000000 in
set_option maxRecDepth 100000 in
theorem w_law_write {p : Program} {l : Launch} {e : Env} {s : State} {m : MethodId} {args : Array Value} {below : List Frame} {meth : Method} {c : Code} {Q : State → Prop} {D : va_G} {cI cZ cF cL cD : ClassId} {b L : Nat} {xs : Nat → Int32} {A : Nat → Prop} (hx : p.tables.exec = Jvm.exec) (hb : c.code = code) (hml : c.maxLocals = 10) (hown : s.vm.findClass RL = some m.cls) (hts : ∀ w ∈ wsL_law, w.before args s = true) (hst : l.stackTraces = false) (hNc : zNc s) (hX0 : va_X b L xs s s.heap) (hbl : b < s.heap.size) (hbA : ¬ A b) (hA : ∀ q, s.heap.size ≤ q → A q) (hK : zK D (zT cI cZ cF cL cD) s) (hXs : zXs A s s.heap) (hL : L ≤ 3584)
    {ad : Nat → Nat} {N : Nat} {nF : Int} (hN : 46 ≤ N) (hNF : N = 46 + 7 * nF.toNat) {σ0 : Nat → va_E} {H : Heap} {locs : List Loc} {cells slots : Nat} (hH : zH D ad N A s.heap σ0 H locs) {sp_waiting : Int → Int} {sp_fieldCount : Int} {sp_trimBound : Int} {sp_planned : Int} {F_fd_colour : Int → Int} {F_fd_layer : Int → Int} {F_fd_column : Int → Int} {F_fd_cornerXs : Int → Int → Int} {F_fd_cornerYs : Int → Int → Int} {F_fd_crossings : Int → Int → Int} {F_fd_cornerCount : Int → Int} {F_fd_crossingCount : Int → Int} {F_fd_density : Int → Int} {F_fd_length : Int → Int} {F_fd_shift : Int → Int} {F_fd_pull : Int → Int} {F_fd_underlay : Int → Int} {F_fd_drawn : Int → Int} {F_pt_xs : Int → Int → Int} {F_pt_ys : Int → Int → Int} {F_pt_size : Int → Int} {pl_kinds : Int → Int} {pl_differencesX : Int → Int} {pl_differencesY : Int → Int} {pl_owners : Int → Int} {pl_kindCounts : Int → Int} {pl_threads : Int → Int} {pl_size : Int} {pl_seconds : UInt32} {pl_needleX : Int} {pl_needleY : Int} {pl_colour : Int} {pa_bytes : Int → Int} {pa_size : Int} {pa_format : Int} {pa_faultPlace : Int} {pa_stitchesRead : Int} {mo_fields : Int} {mo_colour : Int → Int} {mo_layer : Int → Int} {mo_isColumn : Int → Int} {mo_corners : Int → Int} {mo_cornerX : Int → Int} {mo_cornerY : Int → Int} {mo_density : Int → Int} {mo_longest : Int → Int} {mo_shift : Int → Int} {mo_pull : Int → Int} {mo_hasUnderlay : Int → Int} {mo_bound : Int} {mo_pointX : Int → Int} {mo_pointY : Int → Int} {mo_points : Int} {mo_crossing : Int → Int} {mo_crossings : Int} {mo_isKnown : Int} {mo_commands : Int} {mo_kind : Int → Int} {mo_byX : Int → Int} {mo_byY : Int → Int} {mo_fieldOf : Int → Int} {mo_needleX : Int} {mo_needleY : Int} {mo_isSewn : Int → Int} {mo_hasFile : Int} {mo_format : Int} {mo_length : Int} {mo_bytes : Int → Int} {mo_heads : Int} {mo_late : Int} {mo_ran : Int} {mo_program : Int} {mo_thrown : Int} {mo_rowY : Int} {mo_stitches : Int} {lw_out : Int} {R_sp_waiting : Int → Int} {R_sp_planned : Int} {R_F_fd_crossings : Int → Int → Int} {R_F_fd_crossingCount : Int → Int} {R_F_fd_drawn : Int → Int} {R_F_pt_xs : Int → Int → Int} {R_F_pt_ys : Int → Int → Int} {R_F_pt_size : Int → Int} {R_pl_kinds : Int → Int} {R_pl_differencesX : Int → Int} {R_pl_differencesY : Int → Int} {R_pl_owners : Int → Int} {R_pl_kindCounts : Int → Int} {R_pl_threads : Int → Int} {R_pl_size : Int} {R_pl_seconds : UInt32} {R_pl_needleX : Int} {R_pl_needleY : Int} {R_pl_colour : Int} {R_pa_bytes : Int → Int} {R_pa_size : Int} {R_pa_format : Int} {R_mo_pointX : Int → Int} {R_mo_pointY : Int → Int} {R_mo_points : Int} {R_mo_crossing : Int → Int} {R_mo_crossings : Int} {R_mo_isKnown : Int} {R_mo_commands : Int} {R_mo_kind : Int → Int} {R_mo_byX : Int → Int} {R_mo_byY : Int → Int} {R_mo_fieldOf : Int → Int} {R_mo_needleX : Int} {R_mo_needleY : Int} {R_mo_isSewn : Int → Int} {R_mo_hasFile : Int} {R_mo_format : Int} {R_mo_length : Int} {R_mo_bytes : Int → Int} {R_mo_thrown : Int} {R_mo_rowY : Int} {R_lw_out : Int} (h_sp : σ0 0 = oC_sp ad sp_fieldCount sp_trimBound sp_planned) (h_sp_fields : σ0 1 = .inl (cF, 8, .inr (.inr (.inr (.inr (zFA ad nF)))))) (h_sp_waiting : σ0 2 = .inl (cZ, 8, .inl (zA sp_waiting))) (h_pl : σ0 3 = oC_pl ad pl_size pl_seconds pl_needleX pl_needleY pl_colour) (h_pl_kinds : σ0 4 = .inl (cI, 16641, .inl (zA pl_kinds))) (h_pl_differencesX : σ0 5 = .inl (cI, 16641, .inl (zA pl_differencesX))) (h_pl_differencesY : σ0 6 = .inl (cI, 16641, .inl (zA pl_differencesY))) (h_pl_owners : σ0 7 = .inl (cI, 16641, .inl (zA pl_owners))) (h_pl_kindCounts : σ0 8 = .inl (cI, 5, .inl (zA pl_kindCounts))) (h_pl_threads : σ0 9 = .inl (cI, 6, .inl (zA pl_threads))) (h_pa : σ0 12 = oC_pa ad pa_size pa_format pa_faultPlace pa_stitchesRead) (h_pa_bytes : σ0 13 = .inl (cI, 49924, .inl (zA pa_bytes))) (h_mo : σ0 19 = oC_mo ad mo_fields mo_bound mo_points mo_crossings mo_isKnown mo_commands mo_needleX mo_needleY mo_hasFile mo_format mo_length mo_heads mo_late mo_ran mo_program mo_thrown mo_rowY mo_stitches) (h_mo_colour : σ0 20 = .inl (cI, 8, .inl (zA mo_colour))) (h_mo_layer : σ0 21 = .inl (cI, 8, .inl (zA mo_layer))) (h_mo_isColumn : σ0 22 = .inl (cZ, 8, .inl (zA mo_isColumn))) (h_mo_corners : σ0 23 = .inl (cI, 8, .inl (zA mo_corners))) (h_mo_cornerX : σ0 24 = .inl (cI, 64, .inl (zA mo_cornerX))) (h_mo_cornerY : σ0 25 = .inl (cI, 64, .inl (zA mo_cornerY))) (h_mo_density : σ0 26 = .inl (cI, 8, .inl (zA mo_density))) (h_mo_longest : σ0 27 = .inl (cI, 8, .inl (zA mo_longest))) (h_mo_shift : σ0 28 = .inl (cI, 8, .inl (zA mo_shift))) (h_mo_pull : σ0 29 = .inl (cI, 8, .inl (zA mo_pull))) (h_mo_hasUnderlay : σ0 30 = .inl (cZ, 8, .inl (zA mo_hasUnderlay))) (h_mo_pointX : σ0 31 = .inl (cI, 4096, .inl (zA mo_pointX))) (h_mo_pointY : σ0 32 = .inl (cI, 4096, .inl (zA mo_pointY))) (h_mo_crossing : σ0 33 = .inl (cI, 8, .inl (zA mo_crossing))) (h_mo_kind : σ0 34 = .inl (cI, 20000, .inl (zA mo_kind))) (h_mo_byX : σ0 35 = .inl (cI, 20000, .inl (zA mo_byX))) (h_mo_byY : σ0 36 = .inl (cI, 20000, .inl (zA mo_byY))) (h_mo_fieldOf : σ0 37 = .inl (cI, 20000, .inl (zA mo_fieldOf))) (h_mo_isSewn : σ0 38 = .inl (cZ, 8, .inl (zA mo_isSewn))) (h_mo_bytes : σ0 40 = .inl (cI, 70000, .inl (zA mo_bytes))) (h_lw_out : zO cL σ0 lw_out) (h_FF : zFF ad cI nF σ0 F_fd_colour F_fd_layer F_fd_column F_fd_cornerXs F_fd_cornerYs F_fd_crossings F_fd_cornerCount F_fd_crossingCount F_fd_density F_fd_length F_fd_shift F_fd_pull F_fd_underlay F_fd_drawn F_pt_xs F_pt_ys F_pt_size) {ii : Int} (hiL : 0 ≤ ii ∧ ii + 7 ≤ L) {w1 : Int} (hw1 : xs (ii.toNat + 1) = zI w1) (hR1 : zR w1) (hcs : cells + 9 ≤ 83562 ∧ slots + 4300 ≤ 8845420) {ls : Array Slot} (hl : lv_has ls 10 [(0, .ref b), (1, .ref (ad 0)), (2, .ref (ad 19)), (3, .ref (ad 44)), (4, .ref (ad 45)), (5, .int (zI ii))]) (hf : f_law_write sp_waiting sp_trimBound sp_planned F_fd_colour F_fd_layer F_fd_column F_fd_cornerXs F_fd_cornerYs F_fd_crossings F_fd_cornerCount F_fd_crossingCount F_fd_density F_fd_length F_fd_shift F_fd_pull F_fd_underlay F_fd_drawn F_pt_xs F_pt_ys F_pt_size pl_kinds pl_differencesX pl_differencesY pl_owners pl_kindCounts pl_threads pl_size pl_seconds pl_needleX pl_needleY pl_colour pa_bytes pa_size pa_format mo_fields mo_colour mo_layer mo_isColumn mo_corners mo_cornerX mo_cornerY mo_density mo_longest mo_shift mo_pull mo_hasUnderlay mo_bound mo_pointX mo_pointY mo_points mo_crossing mo_crossings mo_isKnown mo_commands mo_kind mo_byX mo_byY mo_fieldOf mo_needleX mo_needleY mo_isSewn mo_hasFile mo_format mo_length mo_bytes mo_thrown mo_rowY lw_out nF w1 = some (R_sp_waiting, R_sp_planned, R_F_fd_crossings, R_F_fd_crossingCount, R_F_fd_drawn, R_F_pt_xs, R_F_pt_ys, R_F_pt_size, R_pl_kinds, R_pl_differencesX, R_pl_differencesY, R_pl_owners, R_pl_kindCounts, R_pl_threads, R_pl_size, R_pl_seconds, R_pl_needleX, R_pl_needleY, R_pl_colour, R_pa_bytes, R_pa_size, R_pa_format, R_mo_pointX, R_mo_pointY, R_mo_points, R_mo_crossing, R_mo_crossings, R_mo_isKnown, R_mo_commands, R_mo_kind, R_mo_byX, R_mo_byY, R_mo_fieldOf, R_mo_needleX, R_mo_needleY, R_mo_isSewn, R_mo_hasFile, R_mo_format, R_mo_length, R_mo_bytes, R_mo_thrown, R_mo_rowY, R_lw_out))
    (kk : ∀ (σ : Nat → va_E) (H : Heap) (locs : List Loc) (cells1 slots1 : Nat), cells1 ≤ cells + 9 → slots1 ≤ slots + 4300 → zH D ad N A s.heap σ H locs → ∀ (h_sp : σ 0 = oC_sp ad sp_fieldCount sp_trimBound R_sp_planned) (h_sp_waiting : σ 2 = .inl (cZ, 8, .inl (zA R_sp_waiting))) (h_pl : σ 3 = oC_pl ad R_pl_size R_pl_seconds R_pl_needleX R_pl_needleY R_pl_colour) (h_pl_kinds : σ 4 = .inl (cI, 16641, .inl (zA R_pl_kinds))) (h_pl_differencesX : σ 5 = .inl (cI, 16641, .inl (zA R_pl_differencesX))) (h_pl_differencesY : σ 6 = .inl (cI, 16641, .inl (zA R_pl_differencesY))) (h_pl_owners : σ 7 = .inl (cI, 16641, .inl (zA R_pl_owners))) (h_pl_kindCounts : σ 8 = .inl (cI, 5, .inl (zA R_pl_kindCounts))) (h_pl_threads : σ 9 = .inl (cI, 6, .inl (zA R_pl_threads))) (h_pa : σ 12 = oC_pa ad R_pa_size R_pa_format pa_faultPlace pa_stitchesRead) (h_pa_bytes : σ 13 = .inl (cI, 49924, .inl (zA R_pa_bytes))) (h_mo : σ 19 = oC_mo ad mo_fields mo_bound R_mo_points R_mo_crossings R_mo_isKnown R_mo_commands R_mo_needleX R_mo_needleY R_mo_hasFile R_mo_format R_mo_length mo_heads mo_late mo_ran mo_program R_mo_thrown R_mo_rowY mo_stitches) (h_mo_pointX : σ 31 = .inl (cI, 4096, .inl (zA R_mo_pointX))) (h_mo_pointY : σ 32 = .inl (cI, 4096, .inl (zA R_mo_pointY))) (h_mo_crossing : σ 33 = .inl (cI, 8, .inl (zA R_mo_crossing))) (h_mo_kind : σ 34 = .inl (cI, 20000, .inl (zA R_mo_kind))) (h_mo_byX : σ 35 = .inl (cI, 20000, .inl (zA R_mo_byX))) (h_mo_byY : σ 36 = .inl (cI, 20000, .inl (zA R_mo_byY))) (h_mo_fieldOf : σ 37 = .inl (cI, 20000, .inl (zA R_mo_fieldOf))) (h_mo_isSewn : σ 38 = .inl (cZ, 8, .inl (zA R_mo_isSewn))) (h_mo_bytes : σ 40 = .inl (cI, 70000, .inl (zA R_mo_bytes))) (h_lw_out : zO cL σ R_lw_out) (h_FF : zFF ad cI nF σ F_fd_colour F_fd_layer F_fd_column F_fd_cornerXs F_fd_cornerYs R_F_fd_crossings F_fd_cornerCount R_F_fd_crossingCount F_fd_density F_fd_length F_fd_shift F_fd_pull F_fd_underlay R_F_fd_drawn R_F_pt_xs R_F_pt_ys R_F_pt_size), ∀ (hbg : ∀ i : Nat, i < 46 → i ≠ 0 → i ≠ 2 → i ≠ 3 → i ≠ 4 → i ≠ 5 → i ≠ 6 → i ≠ 7 → i ≠ 8 → i ≠ 9 → i ≠ 12 → i ≠ 13 → i ≠ 19 → i ≠ 31 → i ≠ 32 → i ≠ 33 → i ≠ 34 → i ≠ 35 → i ≠ 36 → i ≠ 37 → i ≠ 38 → i ≠ 40 → i ≠ 44 → σ i = σ0 i) (ls : Array Slot), lv_has ls 10 [(0, .ref b), (1, .ref (ad 0)), (2, .ref (ad 19)), (3, .ref (ad 44)), (4, .ref (ad 45)), (5, .int (zI ii))] → W p l e room_1 s m args below meth c H locs cells1 slots1 Q (F0 m 1430 ls [])) : W p l e room_1 s m args below meth c H locs cells slots Q (F0 m 916 ls []) := by
  have hI := zD_inj hH.2.1
  have g_c : cells ≤ 83562 := by omega
  have g_s : slots ≤ 8845420 := by omega
  have hk_out : 44 < N := by omega
  have hk_outD : 45 < N := by omega
  have hk_sp : 0 < N := by omega
  have hk_sp_fields : 1 < N := by omega
  have hk_sp_waiting : 2 < N := by omega
  have hk_pl : 3 < N := by omega
  have hk_pl_kinds : 4 < N := by omega
  have hk_pl_differencesX : 5 < N := by omega
  have hk_pl_differencesY : 6 < N := by omega
  have hk_pl_owners : 7 < N := by omega
  have hk_pl_kindCounts : 8 < N := by omega
  have hk_pl_threads : 9 < N := by omega
  have hk_pa : 12 < N := by omega
  have hk_pa_bytes : 13 < N := by omega
  have hk_mo : 19 < N := by omega
  have hk_mo_colour : 20 < N := by omega
  have hk_mo_layer : 21 < N := by omega
  have hk_mo_isColumn : 22 < N := by omega
  have hk_mo_corners : 23 < N := by omega
  have hk_mo_cornerX : 24 < N := by omega
  have hk_mo_cornerY : 25 < N := by omega
  have hk_mo_density : 26 < N := by omega
  have hk_mo_longest : 27 < N := by omega
  have hk_mo_shift : 28 < N := by omega
  have hk_mo_pull : 29 < N := by omega
  have hk_mo_hasUnderlay : 30 < N := by omega
  have hk_mo_pointX : 31 < N := by omega
  have hk_mo_pointY : 32 < N := by omega
  have hk_mo_crossing : 33 < N := by omega
  have hk_mo_kind : 34 < N := by omega
  have hk_mo_byX : 35 < N := by omega
  have hk_mo_byY : 36 < N := by omega
  have hk_mo_fieldOf : 37 < N := by omega
  have hk_mo_isSewn : 38 < N := by omega
  have hk_mo_bytes : 40 < N := by omega
  have hbg : ∀ i : Nat, i < 46 → i ≠ 0 → i ≠ 2 → i ≠ 3 → i ≠ 4 → i ≠ 5 → i ≠ 6 → i ≠ 7 → i ≠ 8 → i ≠ 9 → i ≠ 12 → i ≠ 13 → i ≠ 19 → i ≠ 31 → i ≠ 32 → i ≠ 33 → i ≠ 34 → i ≠ 35 → i ≠ 36 → i ≠ 37 → i ≠ 38 → i ≠ 40 → i ≠ 44 → σ0 i = σ0 i := fun _ _ _ _ _ _ _ _ _ _ _ _ _ _ _ _ _ _ _ _ _ _ _ _ => rfl
  unfold f_law_write at hf
  refine lv_aload_n hx hb dL_law_916 rfl (lv_at hl 1 rfl) ?_
  refine lv_aload_n hx hb dL_law_917 rfl (lv_at hl 0 rfl) ?_
  refine lv_iload hx hb dL_law_918 (lv_at hl 5 rfl) ?_
  refine lv_iconst (v := zI 1) hx hb dL_law_920 (by decide +kernel) ?_
  refine lz_iadd hx hb dL_law_921 ?_
  refine lz_sld hx hb hX0 hbl hbA hH.2.2 hiL hL 1 (by decide) hw1 dL_law_922 ?_
  refine lv_aload_n hx hb dL_law_923 rfl (lv_at hl 3 rfl) ?_
  obtain ⟨r1, u2, u3, u4, u5, u6, u7, u8, u9, u10, u11, u12, u13, u14, u15, u16, u17, u18, u19, u20, u21, u22, u23, u24, k25, hf⟩ := zb24_some hf
  refine zcH (As := [.ref (ad 0), .int (zI w1), .ref (ad 44)]) (rest := []) hx hb hml hown hts hl.1 hK hH hA (hXs.kept hH.2.2.2.1) hNc (c_L_write (zD_inj hH.2.1) hN hNF hst h_sp h_sp_fields h_sp_waiting h_pl h_pl_kinds h_pl_differencesX h_pl_differencesY h_pl_owners h_pl_kindCounts h_pl_threads h_pa h_pa_bytes h_FF h_lw_out k25) zk_t3_211 zk_t3_212 zk_t1_0 zk_t3_213 hd_L_write rfl ⟨rfl, rfl, Nat.le_of_ble_eq_true rfl, Nat.le_of_ble_eq_true rfl⟩ ⟨by show _ ≤ 83562; omega, by show _ ≤ 8845420; omega⟩ rfl (Nat.le_of_ble_eq_true rfl) dL_law_924 (fun q27 σ26 Hσ26 lσ26 hp hH => ?_)
  obtain ⟨hr1, h_sp, h_sp_waiting, h_pl, h_pl_kinds, h_pl_differencesX, h_pl_differencesY, h_pl_owners, h_pl_kindCounts, h_pl_threads, h_pa, h_pa_bytes, h_FF, h_lw_out, hn⟩ := hp
  subst hr1
  have h_sp_fields := (hn 1 (by decide) (by decide) (by decide) (by decide) (by decide) (by decide) (by decide) (by decide) (by decide) (by decide) (by decide) (by decide) (by decide)).trans h_sp_fields
  have h_mo := (hn 19 (by decide) (by decide) (by decide) (by decide) (by decide) (by decide) (by decide) (by decide) (by decide) (by decide) (by decide) (by decide) (by decide)).trans h_mo
  have h_mo_colour := (hn 20 (by decide) (by decide) (by decide) (by decide) (by decide) (by decide) (by decide) (by decide) (by decide) (by decide) (by decide) (by decide) (by decide)).trans h_mo_colour
  have h_mo_layer := (hn 21 (by decide) (by decide) (by decide) (by decide) (by decide) (by decide) (by decide) (by decide) (by decide) (by decide) (by decide) (by decide) (by decide)).trans h_mo_layer
  have h_mo_isColumn := (hn 22 (by decide) (by decide) (by decide) (by decide) (by decide) (by decide) (by decide) (by decide) (by decide) (by decide) (by decide) (by decide) (by decide)).trans h_mo_isColumn
  have h_mo_corners := (hn 23 (by decide) (by decide) (by decide) (by decide) (by decide) (by decide) (by decide) (by decide) (by decide) (by decide) (by decide) (by decide) (by decide)).trans h_mo_corners
  have h_mo_cornerX := (hn 24 (by decide) (by decide) (by decide) (by decide) (by decide) (by decide) (by decide) (by decide) (by decide) (by decide) (by decide) (by decide) (by decide)).trans h_mo_cornerX
  have h_mo_cornerY := (hn 25 (by decide) (by decide) (by decide) (by decide) (by decide) (by decide) (by decide) (by decide) (by decide) (by decide) (by decide) (by decide) (by decide)).trans h_mo_cornerY
  have h_mo_density := (hn 26 (by decide) (by decide) (by decide) (by decide) (by decide) (by decide) (by decide) (by decide) (by decide) (by decide) (by decide) (by decide) (by decide)).trans h_mo_density
  have h_mo_longest := (hn 27 (by decide) (by decide) (by decide) (by decide) (by decide) (by decide) (by decide) (by decide) (by decide) (by decide) (by decide) (by decide) (by decide)).trans h_mo_longest
  have h_mo_shift := (hn 28 (by decide) (by decide) (by decide) (by decide) (by decide) (by decide) (by decide) (by decide) (by decide) (by decide) (by decide) (by decide) (by decide)).trans h_mo_shift
  have h_mo_pull := (hn 29 (by decide) (by decide) (by decide) (by decide) (by decide) (by decide) (by decide) (by decide) (by decide) (by decide) (by decide) (by decide) (by decide)).trans h_mo_pull
  have h_mo_hasUnderlay := (hn 30 (by decide) (by decide) (by decide) (by decide) (by decide) (by decide) (by decide) (by decide) (by decide) (by decide) (by decide) (by decide) (by decide)).trans h_mo_hasUnderlay
  have h_mo_pointX := (hn 31 (by decide) (by decide) (by decide) (by decide) (by decide) (by decide) (by decide) (by decide) (by decide) (by decide) (by decide) (by decide) (by decide)).trans h_mo_pointX
  have h_mo_pointY := (hn 32 (by decide) (by decide) (by decide) (by decide) (by decide) (by decide) (by decide) (by decide) (by decide) (by decide) (by decide) (by decide) (by decide)).trans h_mo_pointY
  have h_mo_crossing := (hn 33 (by decide) (by decide) (by decide) (by decide) (by decide) (by decide) (by decide) (by decide) (by decide) (by decide) (by decide) (by decide) (by decide)).trans h_mo_crossing
  have h_mo_kind := (hn 34 (by decide) (by decide) (by decide) (by decide) (by decide) (by decide) (by decide) (by decide) (by decide) (by decide) (by decide) (by decide) (by decide)).trans h_mo_kind
  have h_mo_byX := (hn 35 (by decide) (by decide) (by decide) (by decide) (by decide) (by decide) (by decide) (by decide) (by decide) (by decide) (by decide) (by decide) (by decide)).trans h_mo_byX
  have h_mo_byY := (hn 36 (by decide) (by decide) (by decide) (by decide) (by decide) (by decide) (by decide) (by decide) (by decide) (by decide) (by decide) (by decide) (by decide)).trans h_mo_byY
  have h_mo_fieldOf := (hn 37 (by decide) (by decide) (by decide) (by decide) (by decide) (by decide) (by decide) (by decide) (by decide) (by decide) (by decide) (by decide) (by decide)).trans h_mo_fieldOf
  have h_mo_isSewn := (hn 38 (by decide) (by decide) (by decide) (by decide) (by decide) (by decide) (by decide) (by decide) (by decide) (by decide) (by decide) (by decide) (by decide)).trans h_mo_isSewn
  have h_mo_bytes := (hn 40 (by decide) (by decide) (by decide) (by decide) (by decide) (by decide) (by decide) (by decide) (by decide) (by decide) (by decide) (by decide) (by decide)).trans h_mo_bytes
  have hbg : ∀ i : Nat, i < 46 → i ≠ 0 → i ≠ 2 → i ≠ 3 → i ≠ 4 → i ≠ 5 → i ≠ 6 → i ≠ 7 → i ≠ 8 → i ≠ 9 → i ≠ 12 → i ≠ 13 → i ≠ 19 → i ≠ 31 → i ≠ 32 → i ≠ 33 → i ≠ 34 → i ≠ 35 → i ≠ 36 → i ≠ 37 → i ≠ 38 → i ≠ 40 → i ≠ 44 → σ26 i = σ0 i := fun i h46 a0 a1 a2 a3 a4 a5 a6 a7 a8 a9 a10 a11 a12 a13 a14 a15 a16 a17 a18 a19 a20 a21 => (hn i h46 a0 a1 a2 a3 a4 a5 a6 a7 a8 a9 a10 a21).trans (hbg i h46 a0 a1 a2 a3 a4 a5 a6 a7 a8 a9 a10 a11 a12 a13 a14 a15 a16 a17 a18 a19 a20 a21)
  have g_c : cells + 1 ≤ 83562 := by omega
  have g_s : slots + 6 ≤ 8845420 := by omega
  refine lv_istore (lv' := [(6, .int (zI r1)), (0, .ref b), (1, .ref (ad 0)), (2, .ref (ad 19)), (3, .ref (ad 44)), (4, .ref (ad 45)), (5, .int (zI ii))]) hx hb dL_law_927 hl (by decide) rfl (fun ls hl => ?_)
  refine lv_aload_n hx hb dL_law_929 rfl (lv_at hl 3 rfl) ?_
  refine lv_aload_n hx hb dL_law_930 rfl (lv_at hl 1 rfl) ?_
  refine lv_iload hx hb dL_law_931 (lv_at hl 6 rfl) ?_
  refine lv_iconst (v := zI 1) hx hb dL_law_933 (by decide +kernel) ?_
  refine lz_iadd hx hb dL_law_934 ?_
  refine lz_sld hx hb hX0 hbl hbA hH.2.2 hiL hL 1 (by decide) hw1 dL_law_935 ?_
  obtain ⟨r28, a29, a30, u31, a32, u33, u34, u35, a36, a37, a38, a39, u40, u41, a42, u43, u44, u45, a46, u47, u48, k49, hf⟩ := zb21_some hf
  refine zcVi (C := RX7) (As := [.int (zI w1)]) (rest := []) hx hb hml hown hts hl.1 hK hH hA (c_X7_write hI hN  h_mo h_mo_colour h_mo_layer h_mo_isColumn h_mo_corners h_mo_cornerX h_mo_cornerY h_mo_density h_mo_longest h_mo_shift h_mo_pull h_mo_hasUnderlay h_mo_pointX h_mo_pointY h_mo_crossing h_mo_kind h_mo_byX h_mo_byY h_mo_fieldOf h_mo_isSewn h_mo_bytes k49) zk_t5_151 zk_t5_152 zk_t5_153 zk_t1_6 zk_t5_154 hd_X7_write rfl ⟨rfl, rfl, Nat.le_of_ble_eq_true rfl, Nat.le_of_ble_eq_true rfl⟩ ⟨g_c, g_s⟩ hk_mo h_mo rfl rfl rfl (Nat.le_of_ble_eq_true rfl) dL_law_936 (fun q51 σ50 Hσ50 lσ50 hp hH => ?_)
  obtain ⟨hr1, h_mo, h_mo_pointX, h_mo_pointY, h_mo_crossing, h_mo_kind, h_mo_byX, h_mo_byY, h_mo_fieldOf, h_mo_isSewn, h_mo_bytes, hn⟩ := hp
  replace hr1 := hr1.symm; subst hr1
  have h_sp := (hn 0 (by decide) (by decide) (by decide) (by decide) (by decide) (by decide) (by decide) (by decide) (by decide) (by decide)).trans h_sp
  have h_sp_fields := (hn 1 (by decide) (by decide) (by decide) (by decide) (by decide) (by decide) (by decide) (by decide) (by decide) (by decide)).trans h_sp_fields
  have h_sp_waiting := (hn 2 (by decide) (by decide) (by decide) (by decide) (by decide) (by decide) (by decide) (by decide) (by decide) (by decide)).trans h_sp_waiting
  have h_pl := (hn 3 (by decide) (by decide) (by decide) (by decide) (by decide) (by decide) (by decide) (by decide) (by decide) (by decide)).trans h_pl
  have h_pl_kinds := (hn 4 (by decide) (by decide) (by decide) (by decide) (by decide) (by decide) (by decide) (by decide) (by decide) (by decide)).trans h_pl_kinds
  have h_pl_differencesX := (hn 5 (by decide) (by decide) (by decide) (by decide) (by decide) (by decide) (by decide) (by decide) (by decide) (by decide)).trans h_pl_differencesX
  have h_pl_differencesY := (hn 6 (by decide) (by decide) (by decide) (by decide) (by decide) (by decide) (by decide) (by decide) (by decide) (by decide)).trans h_pl_differencesY
  have h_pl_owners := (hn 7 (by decide) (by decide) (by decide) (by decide) (by decide) (by decide) (by decide) (by decide) (by decide) (by decide)).trans h_pl_owners
  have h_pl_kindCounts := (hn 8 (by decide) (by decide) (by decide) (by decide) (by decide) (by decide) (by decide) (by decide) (by decide) (by decide)).trans h_pl_kindCounts
  have h_pl_threads := (hn 9 (by decide) (by decide) (by decide) (by decide) (by decide) (by decide) (by decide) (by decide) (by decide) (by decide)).trans h_pl_threads
  have h_pa := (hn 12 (by decide) (by decide) (by decide) (by decide) (by decide) (by decide) (by decide) (by decide) (by decide) (by decide)).trans h_pa
  have h_pa_bytes := (hn 13 (by decide) (by decide) (by decide) (by decide) (by decide) (by decide) (by decide) (by decide) (by decide) (by decide)).trans h_pa_bytes
  have h_mo_colour := (hn 20 (by decide) (by decide) (by decide) (by decide) (by decide) (by decide) (by decide) (by decide) (by decide) (by decide)).trans h_mo_colour
  have h_mo_layer := (hn 21 (by decide) (by decide) (by decide) (by decide) (by decide) (by decide) (by decide) (by decide) (by decide) (by decide)).trans h_mo_layer
  have h_mo_isColumn := (hn 22 (by decide) (by decide) (by decide) (by decide) (by decide) (by decide) (by decide) (by decide) (by decide) (by decide)).trans h_mo_isColumn
  have h_mo_corners := (hn 23 (by decide) (by decide) (by decide) (by decide) (by decide) (by decide) (by decide) (by decide) (by decide) (by decide)).trans h_mo_corners
  have h_mo_cornerX := (hn 24 (by decide) (by decide) (by decide) (by decide) (by decide) (by decide) (by decide) (by decide) (by decide) (by decide)).trans h_mo_cornerX
  have h_mo_cornerY := (hn 25 (by decide) (by decide) (by decide) (by decide) (by decide) (by decide) (by decide) (by decide) (by decide) (by decide)).trans h_mo_cornerY
  have h_mo_density := (hn 26 (by decide) (by decide) (by decide) (by decide) (by decide) (by decide) (by decide) (by decide) (by decide) (by decide)).trans h_mo_density
  have h_mo_longest := (hn 27 (by decide) (by decide) (by decide) (by decide) (by decide) (by decide) (by decide) (by decide) (by decide) (by decide)).trans h_mo_longest
  have h_mo_shift := (hn 28 (by decide) (by decide) (by decide) (by decide) (by decide) (by decide) (by decide) (by decide) (by decide) (by decide)).trans h_mo_shift
  have h_mo_pull := (hn 29 (by decide) (by decide) (by decide) (by decide) (by decide) (by decide) (by decide) (by decide) (by decide) (by decide)).trans h_mo_pull
  have h_mo_hasUnderlay := (hn 30 (by decide) (by decide) (by decide) (by decide) (by decide) (by decide) (by decide) (by decide) (by decide) (by decide)).trans h_mo_hasUnderlay
  have h_FF := zFF_keep (fun i hi => hn i (by omega) (by omega) (by omega) (by omega) (by omega) (by omega) (by omega) (by omega) (by omega) (by omega)) h_FF
  have hbg : ∀ i : Nat, i < 46 → i ≠ 0 → i ≠ 2 → i ≠ 3 → i ≠ 4 → i ≠ 5 → i ≠ 6 → i ≠ 7 → i ≠ 8 → i ≠ 9 → i ≠ 12 → i ≠ 13 → i ≠ 19 → i ≠ 31 → i ≠ 32 → i ≠ 33 → i ≠ 34 → i ≠ 35 → i ≠ 36 → i ≠ 37 → i ≠ 38 → i ≠ 40 → i ≠ 44 → σ50 i = σ0 i := fun i h46 a0 a1 a2 a3 a4 a5 a6 a7 a8 a9 a10 a11 a12 a13 a14 a15 a16 a17 a18 a19 a20 a21 => (hn i a11 a12 a13 a14 a15 a16 a17 a18 a19 a20).trans (hbg i h46 a0 a1 a2 a3 a4 a5 a6 a7 a8 a9 a10 a11 a12 a13 a14 a15 a16 a17 a18 a19 a20 a21)
  have h_lw_out := zO_keep h_lw_out (hn 44 (by decide) (by decide) (by decide) (by decide) (by decide) (by decide) (by decide) (by decide) (by decide) (by decide))
  refine lv_istore (lv' := [(7, .int (zI r28)), (6, .int (zI r1)), (0, .ref b), (1, .ref (ad 0)), (2, .ref (ad 19)), (3, .ref (ad 44)), (4, .ref (ad 45)), (5, .int (zI ii))]) hx hb dL_law_939 hl (by decide) rfl (fun ls hl => ?_)
  refine lv_aload_n hx hb dL_law_941 rfl (lv_at hl 4 rfl) ?_
  obtain ⟨r52, k53, hf⟩ := zb1_some hf
  refine zcVi (C := RX7) (As := []) (rest := []) hx hb hml hown hts hl.1 hK hH hA (c_X7_thrown hI hN  h_mo k53) zk_t5_0 zk_t5_1 zk_t5_2 zk_t1_6 zk_t5_3 hd_X7_thrown rfl ⟨rfl, rfl, Nat.le_of_ble_eq_true rfl, Nat.le_of_ble_eq_true rfl⟩ ⟨g_c, g_s⟩ hk_mo h_mo rfl rfl rfl (Nat.le_of_ble_eq_true rfl) dL_law_942 (fun q55 σ54 Hσ54 lσ54 hp hH => ?_)
  obtain ⟨hr1, hs1⟩ := hp; replace hr1 := hr1.symm; subst hr1; rw [hs1] at hH
  refine lv_iload hx hb dL_law_945 (lv_at hl 1 rfl) ?_
  obtain ⟨k56, hf⟩ := zck_some hf
  refine lz_icmp_eq (tgt := 952) hx hb k56 dL_law_947 (by decide) (fun c57 => ?_) (fun c57 => ?_)
  · replace hf := (if_pos c57).symm.trans hf
    refine lv_iload hx hb dL_law_952 (lv_at hl 1 rfl) ?_
    obtain ⟨k58, hf⟩ := zck_some hf
    refine lz_if_ne (tgt := 969) hx hb k58 dL_law_954 (by decide) (fun c59 => ?_) (fun c59 => ?_)
    · replace hf := (if_neg c59).symm.trans hf
      refine lv_goto (tgt := 1430) hx hb dL_law_969 (by decide) ?_
      cases hf
      exact kk _ _ _ _ _ (by omega) (by omega) hH h_sp h_sp_waiting h_pl h_pl_kinds h_pl_differencesX h_pl_differencesY h_pl_owners h_pl_kindCounts h_pl_threads h_pa h_pa_bytes h_mo h_mo_pointX h_mo_pointY h_mo_crossing h_mo_kind h_mo_byX h_mo_byY h_mo_fieldOf h_mo_isSewn h_mo_bytes h_lw_out h_FF hbg _ (lv_sub hl [2, 3, 4, 5, 6, 7] rfl)
    · replace hf := (if_pos c59).symm.trans hf
      refine lv_aload_n hx hb dL_law_957 rfl (lv_at hl 5 rfl) ?_
      refine lv_iconst (v := zI 0) hx hb dL_law_958 (by decide +kernel) ?_
      refine zlald hx hb hK hH hk_out h_lw_out rfl dL_law_959 ?_
      refine lv_iload hx hb dL_law_960 (lv_at hl 0 rfl) ?_
      refine lv_i2l hx hb dL_law_962 rfl ?_
      obtain ⟨k60, hf⟩ := zck_some hf
      refine lz_lcmpeq (tgt := 969) hx hb k60 dL_law_963 dL_law_964 (by decide) (fun c61 => ?_) (fun c61 => ?_)
      · replace hf := (if_pos c61).symm.trans hf
        refine lv_goto (tgt := 1430) hx hb dL_law_969 (by decide) ?_
        cases hf
        exact kk _ _ _ _ _ (by omega) (by omega) hH h_sp h_sp_waiting h_pl h_pl_kinds h_pl_differencesX h_pl_differencesY h_pl_owners h_pl_kindCounts h_pl_threads h_pa h_pa_bytes h_mo h_mo_pointX h_mo_pointY h_mo_crossing h_mo_kind h_mo_byX h_mo_byY h_mo_fieldOf h_mo_isSewn h_mo_bytes h_lw_out h_FF hbg _ (lv_sub hl [2, 3, 4, 5, 6, 7] rfl)
      · replace hf := (if_neg c61).symm.trans hf
        refine lv_iconst (v := zI 0) hx hb dL_law_967 (by decide +kernel) ?_
        cases hf
  · replace hf := (if_neg c57).symm.trans hf
    refine lv_iconst (v := zI 0) hx hb dL_law_950 (by decide +kernel) ?_
    cases hf
def f_law_byteAt (pa_bytes : Int → Int) (pa_size : Int) (mo_length : Int) (mo_bytes : Int → Int) (mo_thrown : Int) (lw_out : Int) (w1 : Int) : Option (Int × Int) :=
  zb2 (f_L_byteAt pa_bytes pa_size w1 lw_out) fun r1 u2 =>
  zb2 (f_X7_byteAt mo_length mo_bytes mo_thrown w1) fun r6 u7 =>
  zb1 (f_X7_thrown u7) fun r11 =>
  zck (zR r11 ∧ zR r1) <|
  if r11 = r1 then
    zck (zR r1) <|
    if r1 = 0 then
      zck (zR u2 ∧ zR r6) <|
      if u2 = r6 then
        some (u7, u2)
      else
        none
    else
      some (u7, u2)
  else
    none
set_option maxHeartbeats 4000000 in
set_option maxRecDepth 100000 in
theorem w_law_byteAt {p : Program} {l : Launch} {e : Env} {s : State} {m : MethodId} {args : Array Value} {below : List Frame} {meth : Method} {c : Code} {Q : State → Prop} {D : va_G} {cI cZ cF cL cD : ClassId} {b L : Nat} {xs : Nat → Int32} {A : Nat → Prop} (hx : p.tables.exec = Jvm.exec) (hb : c.code = code) (hml : c.maxLocals = 10) (hown : s.vm.findClass RL = some m.cls) (hts : ∀ w ∈ wsL_law, w.before args s = true) (hst : l.stackTraces = false) (hNc : zNc s) (hX0 : va_X b L xs s s.heap) (hbl : b < s.heap.size) (hbA : ¬ A b) (hA : ∀ q, s.heap.size ≤ q → A q) (hK : zK D (zT cI cZ cF cL cD) s) (hXs : zXs A s s.heap) (hL : L ≤ 3584)
    {ad : Nat → Nat} {N : Nat} {nF : Int} (hN : 46 ≤ N) (hNF : N = 46 + 7 * nF.toNat) {σ0 : Nat → va_E} {H : Heap} {locs : List Loc} {cells slots : Nat} (hH : zH D ad N A s.heap σ0 H locs) {sp_fieldCount : Int} {sp_trimBound : Int} {sp_planned : Int} {pa_bytes : Int → Int} {pa_size : Int} {pa_format : Int} {pa_faultPlace : Int} {pa_stitchesRead : Int} {mo_fields : Int} {mo_bound : Int} {mo_points : Int} {mo_crossings : Int} {mo_isKnown : Int} {mo_commands : Int} {mo_needleX : Int} {mo_needleY : Int} {mo_hasFile : Int} {mo_format : Int} {mo_length : Int} {mo_bytes : Int → Int} {mo_heads : Int} {mo_late : Int} {mo_ran : Int} {mo_program : Int} {mo_thrown : Int} {mo_rowY : Int} {mo_stitches : Int} {lw_out : Int} {R_mo_thrown : Int} {R_lw_out : Int} (h_sp : σ0 0 = oC_sp ad sp_fieldCount sp_trimBound sp_planned) (h_pa : σ0 12 = oC_pa ad pa_size pa_format pa_faultPlace pa_stitchesRead) (h_pa_bytes : σ0 13 = .inl (cI, 49924, .inl (zA pa_bytes))) (h_mo : σ0 19 = oC_mo ad mo_fields mo_bound mo_points mo_crossings mo_isKnown mo_commands mo_needleX mo_needleY mo_hasFile mo_format mo_length mo_heads mo_late mo_ran mo_program mo_thrown mo_rowY mo_stitches) (h_mo_bytes : σ0 40 = .inl (cI, 70000, .inl (zA mo_bytes))) (h_lw_out : zO cL σ0 lw_out) {ii : Int} (hiL : 0 ≤ ii ∧ ii + 7 ≤ L) {w1 : Int} (hw1 : xs (ii.toNat + 1) = zI w1) (hR1 : zR w1) (hcs : cells + 9 ≤ 83562 ∧ slots + 4300 ≤ 8845420) {ls : Array Slot} (hl : lv_has ls 10 [(0, .ref b), (1, .ref (ad 0)), (2, .ref (ad 19)), (3, .ref (ad 44)), (4, .ref (ad 45)), (5, .int (zI ii))]) (hf : f_law_byteAt pa_bytes pa_size mo_length mo_bytes mo_thrown lw_out w1 = some (R_mo_thrown, R_lw_out))
    (kk : ∀ (σ : Nat → va_E) (H : Heap) (locs : List Loc) (cells1 slots1 : Nat), cells1 ≤ cells + 9 → slots1 ≤ slots + 4300 → zH D ad N A s.heap σ H locs → ∀ (h_mo : σ 19 = oC_mo ad mo_fields mo_bound mo_points mo_crossings mo_isKnown mo_commands mo_needleX mo_needleY mo_hasFile mo_format mo_length mo_heads mo_late mo_ran mo_program R_mo_thrown mo_rowY mo_stitches) (h_lw_out : zO cL σ R_lw_out), ∀ (hbg : ∀ i : Nat, i ≠ 19 → i ≠ 44 → σ i = σ0 i) (ls : Array Slot), lv_has ls 10 [(0, .ref b), (1, .ref (ad 0)), (2, .ref (ad 19)), (3, .ref (ad 44)), (4, .ref (ad 45)), (5, .int (zI ii))] → W p l e room_1 s m args below meth c H locs cells1 slots1 Q (F0 m 1430 ls [])) : W p l e room_1 s m args below meth c H locs cells slots Q (F0 m 972 ls []) := by
  have hI := zD_inj hH.2.1
  have g_c : cells ≤ 83562 := by omega
  have g_s : slots ≤ 8845420 := by omega
  have hk_out : 44 < N := by omega
  have hk_outD : 45 < N := by omega
  have hk_sp : 0 < N := by omega
  have hk_pa : 12 < N := by omega
  have hk_pa_bytes : 13 < N := by omega
  have hk_mo : 19 < N := by omega
  have hk_mo_bytes : 40 < N := by omega
  have hbg : ∀ i : Nat, i ≠ 19 → i ≠ 44 → σ0 i = σ0 i := fun _ _ _ => rfl
  unfold f_law_byteAt at hf
  refine lv_aload_n hx hb dL_law_972 rfl (lv_at hl 1 rfl) ?_
  refine lv_aload_n hx hb dL_law_973 rfl (lv_at hl 0 rfl) ?_
  refine lv_iload hx hb dL_law_974 (lv_at hl 5 rfl) ?_
  refine lv_iconst (v := zI 1) hx hb dL_law_976 (by decide +kernel) ?_
  refine lz_iadd hx hb dL_law_977 ?_
  refine lz_sld hx hb hX0 hbl hbA hH.2.2 hiL hL 1 (by decide) hw1 dL_law_978 ?_
  refine lv_aload_n hx hb dL_law_979 rfl (lv_at hl 3 rfl) ?_
  obtain ⟨r1, u2, k3, hf⟩ := zb2_some hf
  refine zcH (As := [.ref (ad 0), .int (zI w1), .ref (ad 44)]) (rest := []) hx hb hml hown hts hl.1 hK hH hA (hXs.kept hH.2.2.2.1) hNc (c_L_byteAt (zD_inj hH.2.1) hN hst h_sp h_pa h_pa_bytes h_lw_out k3) zk_t3_239 zk_t4_0 zk_t1_0 zk_t4_1 hd_L_byteAt rfl ⟨rfl, rfl, Nat.le_of_ble_eq_true rfl, Nat.le_of_ble_eq_true rfl⟩ ⟨by show _ ≤ 83562; omega, by show _ ≤ 8845420; omega⟩ rfl (Nat.le_of_ble_eq_true rfl) dL_law_980 (fun q5 σ4 Hσ4 lσ4 hp hH => ?_)
  obtain ⟨hr1, h_lw_out, hn⟩ := hp
  subst hr1
  have h_sp := (hn 0 (by decide)).trans h_sp
  have h_pa := (hn 12 (by decide)).trans h_pa
  have h_pa_bytes := (hn 13 (by decide)).trans h_pa_bytes
  have h_mo := (hn 19 (by decide)).trans h_mo
  have h_mo_bytes := (hn 40 (by decide)).trans h_mo_bytes
  have hbg : ∀ i : Nat, i ≠ 19 → i ≠ 44 → σ4 i = σ0 i := fun i a0 a1 => (hn i a1).trans (hbg i a0 a1)
  have g_c : cells + 1 ≤ 83562 := by omega
  have g_s : slots + 6 ≤ 8845420 := by omega
  refine lv_istore (lv' := [(6, .int (zI r1)), (0, .ref b), (1, .ref (ad 0)), (2, .ref (ad 19)), (3, .ref (ad 44)), (4, .ref (ad 45)), (5, .int (zI ii))]) hx hb dL_law_983 hl (by decide) rfl (fun ls hl => ?_)
  refine lv_aload_n hx hb dL_law_985 rfl (lv_at hl 3 rfl) ?_
  refine lv_aload_n hx hb dL_law_986 rfl (lv_at hl 1 rfl) ?_
  refine lv_iload hx hb dL_law_987 (lv_at hl 6 rfl) ?_
  refine lv_iconst (v := zI 1) hx hb dL_law_989 (by decide +kernel) ?_
  refine lz_iadd hx hb dL_law_990 ?_
  refine lz_sld hx hb hX0 hbl hbA hH.2.2 hiL hL 1 (by decide) hw1 dL_law_991 ?_
  obtain ⟨r6, u7, k8, hf⟩ := zb2_some hf
  refine zcVi (C := RX7) (As := [.int (zI w1)]) (rest := []) hx hb hml hown hts hl.1 hK hH hA (c_X7_byteAt hI hN  h_mo h_mo_bytes k8) zk_t5_166 zk_t5_167 zk_t5_168 zk_t1_6 zk_t5_169 hd_X7_byteAt rfl ⟨rfl, rfl, Nat.le_of_ble_eq_true rfl, Nat.le_of_ble_eq_true rfl⟩ ⟨g_c, g_s⟩ hk_mo h_mo rfl rfl rfl (Nat.le_of_ble_eq_true rfl) dL_law_992 (fun q10 σ9 Hσ9 lσ9 hp hH => ?_)
  obtain ⟨hr1, h_mo, hn⟩ := hp
  replace hr1 := hr1.symm; subst hr1
  have h_sp := (hn 0 (by decide)).trans h_sp
  have h_pa := (hn 12 (by decide)).trans h_pa
  have h_pa_bytes := (hn 13 (by decide)).trans h_pa_bytes
  have h_mo_bytes := (hn 40 (by decide)).trans h_mo_bytes
  have hbg : ∀ i : Nat, i ≠ 19 → i ≠ 44 → σ9 i = σ0 i := fun i a0 a1 => (hn i a0).trans (hbg i a0 a1)
  have h_lw_out := zO_keep h_lw_out (hn 44 (by decide))
  refine lv_istore (lv' := [(7, .int (zI r6)), (6, .int (zI r1)), (0, .ref b), (1, .ref (ad 0)), (2, .ref (ad 19)), (3, .ref (ad 44)), (4, .ref (ad 45)), (5, .int (zI ii))]) hx hb dL_law_995 hl (by decide) rfl (fun ls hl => ?_)
  refine lv_aload_n hx hb dL_law_997 rfl (lv_at hl 4 rfl) ?_
  obtain ⟨r11, k12, hf⟩ := zb1_some hf
  refine zcVi (C := RX7) (As := []) (rest := []) hx hb hml hown hts hl.1 hK hH hA (c_X7_thrown hI hN  h_mo k12) zk_t5_0 zk_t5_1 zk_t5_2 zk_t1_6 zk_t5_3 hd_X7_thrown rfl ⟨rfl, rfl, Nat.le_of_ble_eq_true rfl, Nat.le_of_ble_eq_true rfl⟩ ⟨g_c, g_s⟩ hk_mo h_mo rfl rfl rfl (Nat.le_of_ble_eq_true rfl) dL_law_998 (fun q14 σ13 Hσ13 lσ13 hp hH => ?_)
  obtain ⟨hr1, hs1⟩ := hp; replace hr1 := hr1.symm; subst hr1; rw [hs1] at hH
  refine lv_iload hx hb dL_law_1001 (lv_at hl 1 rfl) ?_
  obtain ⟨k15, hf⟩ := zck_some hf
  refine lz_icmp_eq (tgt := 1008) hx hb k15 dL_law_1003 (by decide) (fun c16 => ?_) (fun c16 => ?_)
  · replace hf := (if_pos c16).symm.trans hf
    refine lv_iload hx hb dL_law_1008 (lv_at hl 1 rfl) ?_
    obtain ⟨k17, hf⟩ := zck_some hf
    refine lz_if_ne (tgt := 1025) hx hb k17 dL_law_1010 (by decide) (fun c18 => ?_) (fun c18 => ?_)
    · replace hf := (if_neg c18).symm.trans hf
      refine lv_goto (tgt := 1430) hx hb dL_law_1025 (by decide) ?_
      cases hf
      exact kk _ _ _ _ _ (by omega) (by omega) hH h_mo h_lw_out hbg _ (lv_sub hl [2, 3, 4, 5, 6, 7] rfl)
    · replace hf := (if_pos c18).symm.trans hf
      refine lv_aload_n hx hb dL_law_1013 rfl (lv_at hl 5 rfl) ?_
      refine lv_iconst (v := zI 0) hx hb dL_law_1014 (by decide +kernel) ?_
      refine zlald hx hb hK hH hk_out h_lw_out rfl dL_law_1015 ?_
      refine lv_iload hx hb dL_law_1016 (lv_at hl 0 rfl) ?_
      refine lv_i2l hx hb dL_law_1018 rfl ?_
      obtain ⟨k19, hf⟩ := zck_some hf
      refine lz_lcmpeq (tgt := 1025) hx hb k19 dL_law_1019 dL_law_1020 (by decide) (fun c20 => ?_) (fun c20 => ?_)
      · replace hf := (if_pos c20).symm.trans hf
        refine lv_goto (tgt := 1430) hx hb dL_law_1025 (by decide) ?_
        cases hf
        exact kk _ _ _ _ _ (by omega) (by omega) hH h_mo h_lw_out hbg _ (lv_sub hl [2, 3, 4, 5, 6, 7] rfl)
      · replace hf := (if_neg c20).symm.trans hf
        refine lv_iconst (v := zI 0) hx hb dL_law_1023 (by decide +kernel) ?_
        cases hf
  · replace hf := (if_neg c16).symm.trans hf
    refine lv_iconst (v := zI 0) hx hb dL_law_1006 (by decide +kernel) ?_
    cases hf
def f_law_damage (pa_bytes : Int → Int) (pa_size : Int) (mo_length : Int) (mo_bytes : Int → Int) (mo_thrown : Int) (lw_out : Int) (w1 : Int) (w2 : Int) : Option ((Int → Int) × (Int → Int) × Int × Int) :=
  zb3 (f_L_damage pa_bytes pa_size w1 w2 lw_out) fun r1 u2 u3 =>
  zb3 (f_X7_damage mo_length mo_bytes mo_thrown w1 w2) fun r7 a8 u9 =>
  zb1 (f_X7_thrown u9) fun r13 =>
  zck (zR r13 ∧ zR r1) <|
  if r13 = r1 then
    zck (zR r1) <|
    if r1 = 0 then
      zck (zR u3 ∧ zR r7) <|
      if u3 = r7 then
        some (u2, a8, u9, u3)
      else
        none
    else
      some (u2, a8, u9, u3)
  else
    none
set_option maxHeartbeats 4000000 in
set_option maxRecDepth 100000 in
theorem w_law_damage {p : Program} {l : Launch} {e : Env} {s : State} {m : MethodId} {args : Array Value} {below : List Frame} {meth : Method} {c : Code} {Q : State → Prop} {D : va_G} {cI cZ cF cL cD : ClassId} {b L : Nat} {xs : Nat → Int32} {A : Nat → Prop} (hx : p.tables.exec = Jvm.exec) (hb : c.code = code) (hml : c.maxLocals = 10) (hown : s.vm.findClass RL = some m.cls) (hts : ∀ w ∈ wsL_law, w.before args s = true) (hst : l.stackTraces = false) (hNc : zNc s) (hX0 : va_X b L xs s s.heap) (hbl : b < s.heap.size) (hbA : ¬ A b) (hA : ∀ q, s.heap.size ≤ q → A q) (hK : zK D (zT cI cZ cF cL cD) s) (hXs : zXs A s s.heap) (hL : L ≤ 3584)
    {ad : Nat → Nat} {N : Nat} {nF : Int} (hN : 46 ≤ N) (hNF : N = 46 + 7 * nF.toNat) {σ0 : Nat → va_E} {H : Heap} {locs : List Loc} {cells slots : Nat} (hH : zH D ad N A s.heap σ0 H locs) {sp_fieldCount : Int} {sp_trimBound : Int} {sp_planned : Int} {pa_bytes : Int → Int} {pa_size : Int} {pa_format : Int} {pa_faultPlace : Int} {pa_stitchesRead : Int} {mo_fields : Int} {mo_bound : Int} {mo_points : Int} {mo_crossings : Int} {mo_isKnown : Int} {mo_commands : Int} {mo_needleX : Int} {mo_needleY : Int} {mo_hasFile : Int} {mo_format : Int} {mo_length : Int} {mo_bytes : Int → Int} {mo_heads : Int} {mo_late : Int} {mo_ran : Int} {mo_program : Int} {mo_thrown : Int} {mo_rowY : Int} {mo_stitches : Int} {lw_out : Int} {R_pa_bytes : Int → Int} {R_mo_bytes : Int → Int} {R_mo_thrown : Int} {R_lw_out : Int} (h_sp : σ0 0 = oC_sp ad sp_fieldCount sp_trimBound sp_planned) (h_pa : σ0 12 = oC_pa ad pa_size pa_format pa_faultPlace pa_stitchesRead) (h_pa_bytes : σ0 13 = .inl (cI, 49924, .inl (zA pa_bytes))) (h_mo : σ0 19 = oC_mo ad mo_fields mo_bound mo_points mo_crossings mo_isKnown mo_commands mo_needleX mo_needleY mo_hasFile mo_format mo_length mo_heads mo_late mo_ran mo_program mo_thrown mo_rowY mo_stitches) (h_mo_bytes : σ0 40 = .inl (cI, 70000, .inl (zA mo_bytes))) (h_lw_out : zO cL σ0 lw_out) {ii : Int} (hiL : 0 ≤ ii ∧ ii + 7 ≤ L) {w1 : Int} (hw1 : xs (ii.toNat + 1) = zI w1) (hR1 : zR w1) {w2 : Int} (hw2 : xs (ii.toNat + 2) = zI w2) (hR2 : zR w2) (hcs : cells + 9 ≤ 83562 ∧ slots + 4300 ≤ 8845420) {ls : Array Slot} (hl : lv_has ls 10 [(0, .ref b), (1, .ref (ad 0)), (2, .ref (ad 19)), (3, .ref (ad 44)), (4, .ref (ad 45)), (5, .int (zI ii))]) (hf : f_law_damage pa_bytes pa_size mo_length mo_bytes mo_thrown lw_out w1 w2 = some (R_pa_bytes, R_mo_bytes, R_mo_thrown, R_lw_out))
    (kk : ∀ (σ : Nat → va_E) (H : Heap) (locs : List Loc) (cells1 slots1 : Nat), cells1 ≤ cells + 9 → slots1 ≤ slots + 4300 → zH D ad N A s.heap σ H locs → ∀ (h_pa_bytes : σ 13 = .inl (cI, 49924, .inl (zA R_pa_bytes))) (h_mo : σ 19 = oC_mo ad mo_fields mo_bound mo_points mo_crossings mo_isKnown mo_commands mo_needleX mo_needleY mo_hasFile mo_format mo_length mo_heads mo_late mo_ran mo_program R_mo_thrown mo_rowY mo_stitches) (h_mo_bytes : σ 40 = .inl (cI, 70000, .inl (zA R_mo_bytes))) (h_lw_out : zO cL σ R_lw_out), ∀ (hbg : ∀ i : Nat, i ≠ 13 → i ≠ 19 → i ≠ 40 → i ≠ 44 → σ i = σ0 i) (ls : Array Slot), lv_has ls 10 [(0, .ref b), (1, .ref (ad 0)), (2, .ref (ad 19)), (3, .ref (ad 44)), (4, .ref (ad 45)), (5, .int (zI ii))] → W p l e room_1 s m args below meth c H locs cells1 slots1 Q (F0 m 1430 ls [])) : W p l e room_1 s m args below meth c H locs cells slots Q (F0 m 1028 ls []) := by
  have hI := zD_inj hH.2.1
  have g_c : cells ≤ 83562 := by omega
  have g_s : slots ≤ 8845420 := by omega
  have hk_out : 44 < N := by omega
  have hk_outD : 45 < N := by omega
  have hk_sp : 0 < N := by omega
  have hk_pa : 12 < N := by omega
  have hk_pa_bytes : 13 < N := by omega
  have hk_mo : 19 < N := by omega
  have hk_mo_bytes : 40 < N := by omega
  have hbg : ∀ i : Nat, i ≠ 13 → i ≠ 19 → i ≠ 40 → i ≠ 44 → σ0 i = σ0 i := fun _ _ _ _ _ => rfl
  unfold f_law_damage at hf
  refine lv_aload_n hx hb dL_law_1028 rfl (lv_at hl 1 rfl) ?_
  refine lv_aload_n hx hb dL_law_1029 rfl (lv_at hl 0 rfl) ?_
  refine lv_iload hx hb dL_law_1030 (lv_at hl 5 rfl) ?_
  refine lv_iconst (v := zI 1) hx hb dL_law_1032 (by decide +kernel) ?_
  refine lz_iadd hx hb dL_law_1033 ?_
  refine lz_sld hx hb hX0 hbl hbA hH.2.2 hiL hL 1 (by decide) hw1 dL_law_1034 ?_
  refine lv_aload_n hx hb dL_law_1035 rfl (lv_at hl 0 rfl) ?_
  refine lv_iload hx hb dL_law_1036 (lv_at hl 5 rfl) ?_
  refine lv_iconst (v := zI 2) hx hb dL_law_1038 (by decide +kernel) ?_
  refine lz_iadd hx hb dL_law_1039 ?_
  refine lz_sld hx hb hX0 hbl hbA hH.2.2 hiL hL 2 (by decide) hw2 dL_law_1040 ?_
  refine lv_aload_n hx hb dL_law_1041 rfl (lv_at hl 3 rfl) ?_
  obtain ⟨r1, u2, u3, k4, hf⟩ := zb3_some hf
  refine zcH (As := [.ref (ad 0), .int (zI w1), .int (zI w2), .ref (ad 44)]) (rest := []) hx hb hml hown hts hl.1 hK hH hA (hXs.kept hH.2.2.2.1) hNc (c_L_damage (zD_inj hH.2.1) hN hst h_sp h_pa h_pa_bytes h_lw_out k4) zk_t4_8 zk_t4_9 zk_t1_0 zk_t4_10 hd_L_damage rfl ⟨rfl, rfl, Nat.le_of_ble_eq_true rfl, Nat.le_of_ble_eq_true rfl⟩ ⟨by show _ ≤ 83562; omega, by show _ ≤ 8845420; omega⟩ rfl (Nat.le_of_ble_eq_true rfl) dL_law_1042 (fun q6 σ5 Hσ5 lσ5 hp hH => ?_)
  obtain ⟨hr1, h_pa_bytes, h_lw_out, hn⟩ := hp
  subst hr1
  have h_sp := (hn 0 (by decide) (by decide)).trans h_sp
  have h_pa := (hn 12 (by decide) (by decide)).trans h_pa
  have h_mo := (hn 19 (by decide) (by decide)).trans h_mo
  have h_mo_bytes := (hn 40 (by decide) (by decide)).trans h_mo_bytes
  have hbg : ∀ i : Nat, i ≠ 13 → i ≠ 19 → i ≠ 40 → i ≠ 44 → σ5 i = σ0 i := fun i a0 a1 a2 a3 => (hn i a0 a3).trans (hbg i a0 a1 a2 a3)
  have g_c : cells + 1 ≤ 83562 := by omega
  have g_s : slots + 6 ≤ 8845420 := by omega
  refine lv_istore (lv' := [(6, .int (zI r1)), (0, .ref b), (1, .ref (ad 0)), (2, .ref (ad 19)), (3, .ref (ad 44)), (4, .ref (ad 45)), (5, .int (zI ii))]) hx hb dL_law_1045 hl (by decide) rfl (fun ls hl => ?_)
  refine lv_aload_n hx hb dL_law_1047 rfl (lv_at hl 3 rfl) ?_
  refine lv_aload_n hx hb dL_law_1048 rfl (lv_at hl 1 rfl) ?_
  refine lv_iload hx hb dL_law_1049 (lv_at hl 6 rfl) ?_
  refine lv_iconst (v := zI 1) hx hb dL_law_1051 (by decide +kernel) ?_
  refine lz_iadd hx hb dL_law_1052 ?_
  refine lz_sld hx hb hX0 hbl hbA hH.2.2 hiL hL 1 (by decide) hw1 dL_law_1053 ?_
  refine lv_aload_n hx hb dL_law_1054 rfl (lv_at hl 1 rfl) ?_
  refine lv_iload hx hb dL_law_1055 (lv_at hl 6 rfl) ?_
  refine lv_iconst (v := zI 2) hx hb dL_law_1057 (by decide +kernel) ?_
  refine lz_iadd hx hb dL_law_1058 ?_
  refine lz_sld hx hb hX0 hbl hbA hH.2.2 hiL hL 2 (by decide) hw2 dL_law_1059 ?_
  obtain ⟨r7, a8, u9, k10, hf⟩ := zb3_some hf
  refine zcVi (C := RX7) (As := [.int (zI w1), .int (zI w2)]) (rest := []) hx hb hml hown hts hl.1 hK hH hA (c_X7_damage hI hN  h_mo h_mo_bytes k10) zk_t5_170 zk_t5_171 zk_t5_172 zk_t1_6 zk_t5_173 hd_X7_damage rfl ⟨rfl, rfl, Nat.le_of_ble_eq_true rfl, Nat.le_of_ble_eq_true rfl⟩ ⟨g_c, g_s⟩ hk_mo h_mo rfl rfl rfl (Nat.le_of_ble_eq_true rfl) dL_law_1060 (fun q12 σ11 Hσ11 lσ11 hp hH => ?_)
  obtain ⟨hr1, h_mo, h_mo_bytes, hn⟩ := hp
  replace hr1 := hr1.symm; subst hr1
  have h_sp := (hn 0 (by decide) (by decide)).trans h_sp
  have h_pa := (hn 12 (by decide) (by decide)).trans h_pa
  have h_pa_bytes := (hn 13 (by decide) (by decide)).trans h_pa_bytes
  have hbg : ∀ i : Nat, i ≠ 13 → i ≠ 19 → i ≠ 40 → i ≠ 44 → σ11 i = σ0 i := fun i a0 a1 a2 a3 => (hn i a1 a2).trans (hbg i a0 a1 a2 a3)
  have h_lw_out := zO_keep h_lw_out (hn 44 (by decide) (by decide))
  refine lv_istore (lv' := [(7, .int (zI r7)), (6, .int (zI r1)), (0, .ref b), (1, .ref (ad 0)), (2, .ref (ad 19)), (3, .ref (ad 44)), (4, .ref (ad 45)), (5, .int (zI ii))]) hx hb dL_law_1063 hl (by decide) rfl (fun ls hl => ?_)
  refine lv_aload_n hx hb dL_law_1065 rfl (lv_at hl 4 rfl) ?_
  obtain ⟨r13, k14, hf⟩ := zb1_some hf
  refine zcVi (C := RX7) (As := []) (rest := []) hx hb hml hown hts hl.1 hK hH hA (c_X7_thrown hI hN  h_mo k14) zk_t5_0 zk_t5_1 zk_t5_2 zk_t1_6 zk_t5_3 hd_X7_thrown rfl ⟨rfl, rfl, Nat.le_of_ble_eq_true rfl, Nat.le_of_ble_eq_true rfl⟩ ⟨g_c, g_s⟩ hk_mo h_mo rfl rfl rfl (Nat.le_of_ble_eq_true rfl) dL_law_1066 (fun q16 σ15 Hσ15 lσ15 hp hH => ?_)
  obtain ⟨hr1, hs1⟩ := hp; replace hr1 := hr1.symm; subst hr1; rw [hs1] at hH
  refine lv_iload hx hb dL_law_1069 (lv_at hl 1 rfl) ?_
  obtain ⟨k17, hf⟩ := zck_some hf
  refine lz_icmp_eq (tgt := 1076) hx hb k17 dL_law_1071 (by decide) (fun c18 => ?_) (fun c18 => ?_)
  · replace hf := (if_pos c18).symm.trans hf
    refine lv_iload hx hb dL_law_1076 (lv_at hl 1 rfl) ?_
    obtain ⟨k19, hf⟩ := zck_some hf
    refine lz_if_ne (tgt := 1093) hx hb k19 dL_law_1078 (by decide) (fun c20 => ?_) (fun c20 => ?_)
    · replace hf := (if_neg c20).symm.trans hf
      refine lv_goto (tgt := 1430) hx hb dL_law_1093 (by decide) ?_
      cases hf
      exact kk _ _ _ _ _ (by omega) (by omega) hH h_pa_bytes h_mo h_mo_bytes h_lw_out hbg _ (lv_sub hl [2, 3, 4, 5, 6, 7] rfl)
    · replace hf := (if_pos c20).symm.trans hf
      refine lv_aload_n hx hb dL_law_1081 rfl (lv_at hl 5 rfl) ?_
      refine lv_iconst (v := zI 0) hx hb dL_law_1082 (by decide +kernel) ?_
      refine zlald hx hb hK hH hk_out h_lw_out rfl dL_law_1083 ?_
      refine lv_iload hx hb dL_law_1084 (lv_at hl 0 rfl) ?_
      refine lv_i2l hx hb dL_law_1086 rfl ?_
      obtain ⟨k21, hf⟩ := zck_some hf
      refine lz_lcmpeq (tgt := 1093) hx hb k21 dL_law_1087 dL_law_1088 (by decide) (fun c22 => ?_) (fun c22 => ?_)
      · replace hf := (if_pos c22).symm.trans hf
        refine lv_goto (tgt := 1430) hx hb dL_law_1093 (by decide) ?_
        cases hf
        exact kk _ _ _ _ _ (by omega) (by omega) hH h_pa_bytes h_mo h_mo_bytes h_lw_out hbg _ (lv_sub hl [2, 3, 4, 5, 6, 7] rfl)
      · replace hf := (if_neg c22).symm.trans hf
        refine lv_iconst (v := zI 0) hx hb dL_law_1091 (by decide +kernel) ?_
        cases hf
  · replace hf := (if_neg c18).symm.trans hf
    refine lv_iconst (v := zI 0) hx hb dL_law_1074 (by decide +kernel) ?_
    cases hf
def f_law_shorten (pa_size : Int) (mo_length : Int) (mo_thrown : Int) (lw_out : Int) (w1 : Int) : Option (Int × Int × Int × Int) :=
  zb3 (f_L_shorten pa_size w1 lw_out) fun r1 u2 u3 =>
  zb3 (f_X7_shorten mo_length mo_thrown w1) fun r7 u8 u9 =>
  zb1 (f_X7_thrown u9) fun r13 =>
  zck (zR r13 ∧ zR r1) <|
  if r13 = r1 then
    zck (zR r1) <|
    if r1 = 0 then
      zck (zR u3 ∧ zR r7) <|
      if u3 = r7 then
        some (u2, u8, u9, u3)
      else
        none
    else
      some (u2, u8, u9, u3)
  else
    none
set_option maxHeartbeats 4000000 in
set_option maxRecDepth 100000 in
theorem w_law_shorten {p : Program} {l : Launch} {e : Env} {s : State} {m : MethodId} {args : Array Value} {below : List Frame} {meth : Method} {c : Code} {Q : State → Prop} {D : va_G} {cI cZ cF cL cD : ClassId} {b L : Nat} {xs : Nat → Int32} {A : Nat → Prop} (hx : p.tables.exec = Jvm.exec) (hb : c.code = code) (hml : c.maxLocals = 10) (hown : s.vm.findClass RL = some m.cls) (hts : ∀ w ∈ wsL_law, w.before args s = true) (hst : l.stackTraces = false) (hNc : zNc s) (hX0 : va_X b L xs s s.heap) (hbl : b < s.heap.size) (hbA : ¬ A b) (hA : ∀ q, s.heap.size ≤ q → A q) (hK : zK D (zT cI cZ cF cL cD) s) (hXs : zXs A s s.heap) (hL : L ≤ 3584)
    {ad : Nat → Nat} {N : Nat} {nF : Int} (hN : 46 ≤ N) (hNF : N = 46 + 7 * nF.toNat) {σ0 : Nat → va_E} {H : Heap} {locs : List Loc} {cells slots : Nat} (hH : zH D ad N A s.heap σ0 H locs) {sp_fieldCount : Int} {sp_trimBound : Int} {sp_planned : Int} {pa_size : Int} {pa_format : Int} {pa_faultPlace : Int} {pa_stitchesRead : Int} {mo_fields : Int} {mo_bound : Int} {mo_points : Int} {mo_crossings : Int} {mo_isKnown : Int} {mo_commands : Int} {mo_needleX : Int} {mo_needleY : Int} {mo_hasFile : Int} {mo_format : Int} {mo_length : Int} {mo_heads : Int} {mo_late : Int} {mo_ran : Int} {mo_program : Int} {mo_thrown : Int} {mo_rowY : Int} {mo_stitches : Int} {lw_out : Int} {R_pa_size : Int} {R_mo_length : Int} {R_mo_thrown : Int} {R_lw_out : Int} (h_sp : σ0 0 = oC_sp ad sp_fieldCount sp_trimBound sp_planned) (h_pa : σ0 12 = oC_pa ad pa_size pa_format pa_faultPlace pa_stitchesRead) (h_mo : σ0 19 = oC_mo ad mo_fields mo_bound mo_points mo_crossings mo_isKnown mo_commands mo_needleX mo_needleY mo_hasFile mo_format mo_length mo_heads mo_late mo_ran mo_program mo_thrown mo_rowY mo_stitches) (h_lw_out : zO cL σ0 lw_out) {ii : Int} (hiL : 0 ≤ ii ∧ ii + 7 ≤ L) {w1 : Int} (hw1 : xs (ii.toNat + 1) = zI w1) (hR1 : zR w1) (hcs : cells + 9 ≤ 83562 ∧ slots + 4300 ≤ 8845420) {ls : Array Slot} (hl : lv_has ls 10 [(0, .ref b), (1, .ref (ad 0)), (2, .ref (ad 19)), (3, .ref (ad 44)), (4, .ref (ad 45)), (5, .int (zI ii))]) (hf : f_law_shorten pa_size mo_length mo_thrown lw_out w1 = some (R_pa_size, R_mo_length, R_mo_thrown, R_lw_out))
    (kk : ∀ (σ : Nat → va_E) (H : Heap) (locs : List Loc) (cells1 slots1 : Nat), cells1 ≤ cells + 9 → slots1 ≤ slots + 4300 → zH D ad N A s.heap σ H locs → ∀ (h_pa : σ 12 = oC_pa ad R_pa_size pa_format pa_faultPlace pa_stitchesRead) (h_mo : σ 19 = oC_mo ad mo_fields mo_bound mo_points mo_crossings mo_isKnown mo_commands mo_needleX mo_needleY mo_hasFile mo_format R_mo_length mo_heads mo_late mo_ran mo_program R_mo_thrown mo_rowY mo_stitches) (h_lw_out : zO cL σ R_lw_out), ∀ (hbg : ∀ i : Nat, i ≠ 12 → i ≠ 19 → i ≠ 44 → σ i = σ0 i) (ls : Array Slot), lv_has ls 10 [(0, .ref b), (1, .ref (ad 0)), (2, .ref (ad 19)), (3, .ref (ad 44)), (4, .ref (ad 45)), (5, .int (zI ii))] → W p l e room_1 s m args below meth c H locs cells1 slots1 Q (F0 m 1430 ls [])) : W p l e room_1 s m args below meth c H locs cells slots Q (F0 m 1096 ls []) := by
  have hI := zD_inj hH.2.1
  have g_c : cells ≤ 83562 := by omega
  have g_s : slots ≤ 8845420 := by omega
  have hk_out : 44 < N := by omega
  have hk_outD : 45 < N := by omega
  have hk_sp : 0 < N := by omega
  have hk_pa : 12 < N := by omega
  have hk_mo : 19 < N := by omega
  have hbg : ∀ i : Nat, i ≠ 12 → i ≠ 19 → i ≠ 44 → σ0 i = σ0 i := fun _ _ _ _ => rfl
  unfold f_law_shorten at hf
  refine lv_aload_n hx hb dL_law_1096 rfl (lv_at hl 1 rfl) ?_
  refine lv_aload_n hx hb dL_law_1097 rfl (lv_at hl 0 rfl) ?_
  refine lv_iload hx hb dL_law_1098 (lv_at hl 5 rfl) ?_
  refine lv_iconst (v := zI 1) hx hb dL_law_1100 (by decide +kernel) ?_
  refine lz_iadd hx hb dL_law_1101 ?_
  refine lz_sld hx hb hX0 hbl hbA hH.2.2 hiL hL 1 (by decide) hw1 dL_law_1102 ?_
  refine lv_aload_n hx hb dL_law_1103 rfl (lv_at hl 3 rfl) ?_
  obtain ⟨r1, u2, u3, k4, hf⟩ := zb3_some hf
  refine zcH (As := [.ref (ad 0), .int (zI w1), .ref (ad 44)]) (rest := []) hx hb hml hown hts hl.1 hK hH hA (hXs.kept hH.2.2.2.1) hNc (c_L_shorten (zD_inj hH.2.1) hN hst h_sp h_pa h_lw_out k4) zk_t4_16 zk_t4_17 zk_t1_0 zk_t4_18 hd_L_shorten rfl ⟨rfl, rfl, Nat.le_of_ble_eq_true rfl, Nat.le_of_ble_eq_true rfl⟩ ⟨by show _ ≤ 83562; omega, by show _ ≤ 8845420; omega⟩ rfl (Nat.le_of_ble_eq_true rfl) dL_law_1104 (fun q6 σ5 Hσ5 lσ5 hp hH => ?_)
  obtain ⟨hr1, h_pa, h_lw_out, hn⟩ := hp
  subst hr1
  have h_sp := (hn 0 (by decide) (by decide)).trans h_sp
  have h_mo := (hn 19 (by decide) (by decide)).trans h_mo
  have hbg : ∀ i : Nat, i ≠ 12 → i ≠ 19 → i ≠ 44 → σ5 i = σ0 i := fun i a0 a1 a2 => (hn i a0 a2).trans (hbg i a0 a1 a2)
  have g_c : cells + 1 ≤ 83562 := by omega
  have g_s : slots + 6 ≤ 8845420 := by omega
  refine lv_istore (lv' := [(6, .int (zI r1)), (0, .ref b), (1, .ref (ad 0)), (2, .ref (ad 19)), (3, .ref (ad 44)), (4, .ref (ad 45)), (5, .int (zI ii))]) hx hb dL_law_1107 hl (by decide) rfl (fun ls hl => ?_)
  refine lv_aload_n hx hb dL_law_1109 rfl (lv_at hl 3 rfl) ?_
  refine lv_aload_n hx hb dL_law_1110 rfl (lv_at hl 1 rfl) ?_
  refine lv_iload hx hb dL_law_1111 (lv_at hl 6 rfl) ?_
  refine lv_iconst (v := zI 1) hx hb dL_law_1113 (by decide +kernel) ?_
  refine lz_iadd hx hb dL_law_1114 ?_
  refine lz_sld hx hb hX0 hbl hbA hH.2.2 hiL hL 1 (by decide) hw1 dL_law_1115 ?_
  obtain ⟨r7, u8, u9, k10, hf⟩ := zb3_some hf
  refine zcVi (C := RX7) (As := [.int (zI w1)]) (rest := []) hx hb hml hown hts hl.1 hK hH hA (c_X7_shorten hI hN  h_mo k10) zk_t5_174 zk_t5_175 zk_t5_176 zk_t1_6 zk_t5_177 hd_X7_shorten rfl ⟨rfl, rfl, Nat.le_of_ble_eq_true rfl, Nat.le_of_ble_eq_true rfl⟩ ⟨g_c, g_s⟩ hk_mo h_mo rfl rfl rfl (Nat.le_of_ble_eq_true rfl) dL_law_1116 (fun q12 σ11 Hσ11 lσ11 hp hH => ?_)
  obtain ⟨hr1, h_mo, hn⟩ := hp
  replace hr1 := hr1.symm; subst hr1
  have h_sp := (hn 0 (by decide)).trans h_sp
  have h_pa := (hn 12 (by decide)).trans h_pa
  have hbg : ∀ i : Nat, i ≠ 12 → i ≠ 19 → i ≠ 44 → σ11 i = σ0 i := fun i a0 a1 a2 => (hn i a1).trans (hbg i a0 a1 a2)
  have h_lw_out := zO_keep h_lw_out (hn 44 (by decide))
  refine lv_istore (lv' := [(7, .int (zI r7)), (6, .int (zI r1)), (0, .ref b), (1, .ref (ad 0)), (2, .ref (ad 19)), (3, .ref (ad 44)), (4, .ref (ad 45)), (5, .int (zI ii))]) hx hb dL_law_1119 hl (by decide) rfl (fun ls hl => ?_)
  refine lv_aload_n hx hb dL_law_1121 rfl (lv_at hl 4 rfl) ?_
  obtain ⟨r13, k14, hf⟩ := zb1_some hf
  refine zcVi (C := RX7) (As := []) (rest := []) hx hb hml hown hts hl.1 hK hH hA (c_X7_thrown hI hN  h_mo k14) zk_t5_0 zk_t5_1 zk_t5_2 zk_t1_6 zk_t5_3 hd_X7_thrown rfl ⟨rfl, rfl, Nat.le_of_ble_eq_true rfl, Nat.le_of_ble_eq_true rfl⟩ ⟨g_c, g_s⟩ hk_mo h_mo rfl rfl rfl (Nat.le_of_ble_eq_true rfl) dL_law_1122 (fun q16 σ15 Hσ15 lσ15 hp hH => ?_)
  obtain ⟨hr1, hs1⟩ := hp; replace hr1 := hr1.symm; subst hr1; rw [hs1] at hH
  refine lv_iload hx hb dL_law_1125 (lv_at hl 1 rfl) ?_
  obtain ⟨k17, hf⟩ := zck_some hf
  refine lz_icmp_eq (tgt := 1132) hx hb k17 dL_law_1127 (by decide) (fun c18 => ?_) (fun c18 => ?_)
  · replace hf := (if_pos c18).symm.trans hf
    refine lv_iload hx hb dL_law_1132 (lv_at hl 1 rfl) ?_
    obtain ⟨k19, hf⟩ := zck_some hf
    refine lz_if_ne (tgt := 1149) hx hb k19 dL_law_1134 (by decide) (fun c20 => ?_) (fun c20 => ?_)
    · replace hf := (if_neg c20).symm.trans hf
      refine lv_goto (tgt := 1430) hx hb dL_law_1149 (by decide) ?_
      cases hf
      exact kk _ _ _ _ _ (by omega) (by omega) hH h_pa h_mo h_lw_out hbg _ (lv_sub hl [2, 3, 4, 5, 6, 7] rfl)
    · replace hf := (if_pos c20).symm.trans hf
      refine lv_aload_n hx hb dL_law_1137 rfl (lv_at hl 5 rfl) ?_
      refine lv_iconst (v := zI 0) hx hb dL_law_1138 (by decide +kernel) ?_
      refine zlald hx hb hK hH hk_out h_lw_out rfl dL_law_1139 ?_
      refine lv_iload hx hb dL_law_1140 (lv_at hl 0 rfl) ?_
      refine lv_i2l hx hb dL_law_1142 rfl ?_
      obtain ⟨k21, hf⟩ := zck_some hf
      refine lz_lcmpeq (tgt := 1149) hx hb k21 dL_law_1143 dL_law_1144 (by decide) (fun c22 => ?_) (fun c22 => ?_)
      · replace hf := (if_pos c22).symm.trans hf
        refine lv_goto (tgt := 1430) hx hb dL_law_1149 (by decide) ?_
        cases hf
        exact kk _ _ _ _ _ (by omega) (by omega) hH h_pa h_mo h_lw_out hbg _ (lv_sub hl [2, 3, 4, 5, 6, 7] rfl)
      · replace hf := (if_neg c22).symm.trans hf
        refine lv_iconst (v := zI 0) hx hb dL_law_1147 (by decide +kernel) ?_
        cases hf
  · replace hf := (if_neg c18).symm.trans hf
    refine lv_iconst (v := zI 0) hx hb dL_law_1130 (by decide +kernel) ?_
    cases hf
def f_law_fault (pa_bytes : Int → Int) (pa_size : Int) (pa_format : Int) (pa_faultPlace : Int) (pa_stitchesRead : Int) (mo_hasFile : Int) (mo_format : Int) (mo_length : Int) (mo_bytes : Int → Int) (mo_thrown : Int) (mo_stitches : Int) : Option (Int × Int × Int × Int) :=
  zb3 (f_X6_fault pa_bytes pa_size pa_format pa_faultPlace pa_stitchesRead) fun r1 u2 u3 =>
  zb3 (f_X7_fault mo_hasFile mo_format mo_length mo_bytes mo_thrown mo_stitches) fun r7 u8 u9 =>
  zck (zR r1 ∧ zR r7) <|
  if r1 = r7 then
    some (u2, u3, u8, u9)
  else
    none
set_option maxHeartbeats 4000000 in
set_option maxRecDepth 100000 in
theorem w_law_fault {p : Program} {l : Launch} {e : Env} {s : State} {m : MethodId} {args : Array Value} {below : List Frame} {meth : Method} {c : Code} {Q : State → Prop} {D : va_G} {cI cZ cF cL cD : ClassId} {b L : Nat} {xs : Nat → Int32} {A : Nat → Prop} (hx : p.tables.exec = Jvm.exec) (hb : c.code = code) (hml : c.maxLocals = 10) (hown : s.vm.findClass RL = some m.cls) (hts : ∀ w ∈ wsL_law, w.before args s = true) (hst : l.stackTraces = false) (hNc : zNc s) (hX0 : va_X b L xs s s.heap) (hbl : b < s.heap.size) (hbA : ¬ A b) (hA : ∀ q, s.heap.size ≤ q → A q) (hK : zK D (zT cI cZ cF cL cD) s) (hXs : zXs A s s.heap) (hL : L ≤ 3584)
    {ad : Nat → Nat} {N : Nat} {nF : Int} (hN : 46 ≤ N) (hNF : N = 46 + 7 * nF.toNat) {σ0 : Nat → va_E} {H : Heap} {locs : List Loc} {cells slots : Nat} (hH : zH D ad N A s.heap σ0 H locs) {sp_fieldCount : Int} {sp_trimBound : Int} {sp_planned : Int} {pa_bytes : Int → Int} {pa_size : Int} {pa_format : Int} {pa_faultPlace : Int} {pa_stitchesRead : Int} {mo_fields : Int} {mo_bound : Int} {mo_points : Int} {mo_crossings : Int} {mo_isKnown : Int} {mo_commands : Int} {mo_needleX : Int} {mo_needleY : Int} {mo_hasFile : Int} {mo_format : Int} {mo_length : Int} {mo_bytes : Int → Int} {mo_heads : Int} {mo_late : Int} {mo_ran : Int} {mo_program : Int} {mo_thrown : Int} {mo_rowY : Int} {mo_stitches : Int} {R_pa_faultPlace : Int} {R_pa_stitchesRead : Int} {R_mo_thrown : Int} {R_mo_stitches : Int} (h_sp : σ0 0 = oC_sp ad sp_fieldCount sp_trimBound sp_planned) (h_pa : σ0 12 = oC_pa ad pa_size pa_format pa_faultPlace pa_stitchesRead) (h_pa_bytes : σ0 13 = .inl (cI, 49924, .inl (zA pa_bytes))) (h_mo : σ0 19 = oC_mo ad mo_fields mo_bound mo_points mo_crossings mo_isKnown mo_commands mo_needleX mo_needleY mo_hasFile mo_format mo_length mo_heads mo_late mo_ran mo_program mo_thrown mo_rowY mo_stitches) (h_mo_bytes : σ0 40 = .inl (cI, 70000, .inl (zA mo_bytes))) {ii : Int} (hiL : 0 ≤ ii ∧ ii + 7 ≤ L) (hcs : cells + 9 ≤ 83562 ∧ slots + 4300 ≤ 8845420) {ls : Array Slot} (hl : lv_has ls 10 [(0, .ref b), (1, .ref (ad 0)), (2, .ref (ad 19)), (3, .ref (ad 44)), (4, .ref (ad 45)), (5, .int (zI ii))]) (hf : f_law_fault pa_bytes pa_size pa_format pa_faultPlace pa_stitchesRead mo_hasFile mo_format mo_length mo_bytes mo_thrown mo_stitches = some (R_pa_faultPlace, R_pa_stitchesRead, R_mo_thrown, R_mo_stitches))
    (kk : ∀ (σ : Nat → va_E) (H : Heap) (locs : List Loc) (cells1 slots1 : Nat), cells1 ≤ cells + 9 → slots1 ≤ slots + 4300 → zH D ad N A s.heap σ H locs → ∀ (h_pa : σ 12 = oC_pa ad pa_size pa_format R_pa_faultPlace R_pa_stitchesRead) (h_mo : σ 19 = oC_mo ad mo_fields mo_bound mo_points mo_crossings mo_isKnown mo_commands mo_needleX mo_needleY mo_hasFile mo_format mo_length mo_heads mo_late mo_ran mo_program R_mo_thrown mo_rowY R_mo_stitches), ∀ (hbg : ∀ i : Nat, i ≠ 12 → i ≠ 19 → σ i = σ0 i) (ls : Array Slot), lv_has ls 10 [(0, .ref b), (1, .ref (ad 0)), (2, .ref (ad 19)), (3, .ref (ad 44)), (4, .ref (ad 45)), (5, .int (zI ii))] → W p l e room_1 s m args below meth c H locs cells1 slots1 Q (F0 m 1430 ls [])) : W p l e room_1 s m args below meth c H locs cells slots Q (F0 m 1152 ls []) := by
  have hI := zD_inj hH.2.1
  have g_c : cells ≤ 83562 := by omega
  have g_s : slots ≤ 8845420 := by omega
  have hk_out : 44 < N := by omega
  have hk_outD : 45 < N := by omega
  have hk_sp : 0 < N := by omega
  have hk_pa : 12 < N := by omega
  have hk_pa_bytes : 13 < N := by omega
  have hk_mo : 19 < N := by omega
  have hk_mo_bytes : 40 < N := by omega
  have hbg : ∀ i : Nat, i ≠ 12 → i ≠ 19 → σ0 i = σ0 i := fun _ _ _ => rfl
  unfold f_law_fault at hf
  refine lv_aload_n hx hb dL_law_1152 rfl (lv_at hl 1 rfl) ?_
  obtain ⟨r1, u2, u3, k4, hf⟩ := zb3_some hf
  refine zcVi (C := RX6) (As := []) (rest := []) hx hb hml hown hts hl.1 hK hH hA (c_X6_fault hI hN  h_sp h_pa h_pa_bytes k4) zk_t2_75 zk_t2_76 zk_t2_77 zk_t1_1 zk_t2_78 hd_X6_fault rfl ⟨rfl, rfl, Nat.le_of_ble_eq_true rfl, Nat.le_of_ble_eq_true rfl⟩ ⟨g_c, g_s⟩ hk_sp h_sp rfl rfl rfl (Nat.le_of_ble_eq_true rfl) dL_law_1153 (fun q6 σ5 Hσ5 lσ5 hp hH => ?_)
  obtain ⟨hr1, h_pa, hn⟩ := hp
  replace hr1 := hr1.symm; subst hr1
  have h_sp := (hn 0 (by decide)).trans h_sp
  have h_pa_bytes := (hn 13 (by decide)).trans h_pa_bytes
  have h_mo := (hn 19 (by decide)).trans h_mo
  have h_mo_bytes := (hn 40 (by decide)).trans h_mo_bytes
  have hbg : ∀ i : Nat, i ≠ 12 → i ≠ 19 → σ5 i = σ0 i := fun i a0 a1 => (hn i a0).trans (hbg i a0 a1)
  refine lv_aload_n hx hb dL_law_1156 rfl (lv_at hl 2 rfl) ?_
  obtain ⟨r7, u8, u9, k10, hf⟩ := zb3_some hf
  refine zcVi (C := RX7) (As := []) (rest := [.int (zI r1)]) hx hb hml hown hts hl.1 hK hH hA (c_X7_fault hI hN  h_mo h_mo_bytes k10) zk_t5_178 zk_t5_179 zk_t5_180 zk_t1_6 zk_t5_181 hd_X7_fault rfl ⟨rfl, rfl, Nat.le_of_ble_eq_true rfl, Nat.le_of_ble_eq_true rfl⟩ ⟨g_c, g_s⟩ hk_mo h_mo rfl rfl rfl (Nat.le_of_ble_eq_true rfl) dL_law_1157 (fun q12 σ11 Hσ11 lσ11 hp hH => ?_)
  obtain ⟨hr1, h_mo, hn⟩ := hp
  replace hr1 := hr1.symm; subst hr1
  have h_sp := (hn 0 (by decide)).trans h_sp
  have h_pa := (hn 12 (by decide)).trans h_pa
  have h_pa_bytes := (hn 13 (by decide)).trans h_pa_bytes
  have h_mo_bytes := (hn 40 (by decide)).trans h_mo_bytes
  have hbg : ∀ i : Nat, i ≠ 12 → i ≠ 19 → σ11 i = σ0 i := fun i a0 a1 => (hn i a1).trans (hbg i a0 a1)
  obtain ⟨k13, hf⟩ := zck_some hf
  refine lz_icmp_eq (tgt := 1430) hx hb k13 dL_law_1160 (by decide) (fun c14 => ?_) (fun c14 => ?_)
  · replace hf := (if_pos c14).symm.trans hf
    cases hf
    exact kk _ _ _ _ _ (by omega) (by omega) hH h_pa h_mo hbg _ (lv_sub hl [0, 1, 2, 3, 4, 5] rfl)
  · replace hf := (if_neg c14).symm.trans hf
    refine lv_iconst (v := zI 0) hx hb dL_law_1163 (by decide +kernel) ?_
    cases hf
def f_law_reads (pa_bytes : Int → Int) (pa_size : Int) (pa_format : Int) (pa_faultPlace : Int) (pa_stitchesRead : Int) (mo_hasFile : Int) (mo_format : Int) (mo_length : Int) (mo_bytes : Int → Int) (mo_thrown : Int) (mo_stitches : Int) : Option (Int × Int × Int × Int) :=
  zb3 (f_X6_reads pa_bytes pa_size pa_format pa_faultPlace pa_stitchesRead) fun r1 u2 u3 =>
  zb3 (f_X7_reads mo_hasFile mo_format mo_length mo_bytes mo_thrown mo_stitches) fun r7 u8 u9 =>
  zck (zR r1 ∧ zR r7) <|
  if r1 = r7 then
    some (u2, u3, u8, u9)
  else
    none
set_option maxHeartbeats 4000000 in
set_option maxRecDepth 100000 in
theorem w_law_reads {p : Program} {l : Launch} {e : Env} {s : State} {m : MethodId} {args : Array Value} {below : List Frame} {meth : Method} {c : Code} {Q : State → Prop} {D : va_G} {cI cZ cF cL cD : ClassId} {b L : Nat} {xs : Nat → Int32} {A : Nat → Prop} (hx : p.tables.exec = Jvm.exec) (hb : c.code = code) (hml : c.maxLocals = 10) (hown : s.vm.findClass RL = some m.cls) (hts : ∀ w ∈ wsL_law, w.before args s = true) (hst : l.stackTraces = false) (hNc : zNc s) (hX0 : va_X b L xs s s.heap) (hbl : b < s.heap.size) (hbA : ¬ A b) (hA : ∀ q, s.heap.size ≤ q → A q) (hK : zK D (zT cI cZ cF cL cD) s) (hXs : zXs A s s.heap) (hL : L ≤ 3584)
    {ad : Nat → Nat} {N : Nat} {nF : Int} (hN : 46 ≤ N) (hNF : N = 46 + 7 * nF.toNat) {σ0 : Nat → va_E} {H : Heap} {locs : List Loc} {cells slots : Nat} (hH : zH D ad N A s.heap σ0 H locs) {sp_fieldCount : Int} {sp_trimBound : Int} {sp_planned : Int} {pa_bytes : Int → Int} {pa_size : Int} {pa_format : Int} {pa_faultPlace : Int} {pa_stitchesRead : Int} {mo_fields : Int} {mo_bound : Int} {mo_points : Int} {mo_crossings : Int} {mo_isKnown : Int} {mo_commands : Int} {mo_needleX : Int} {mo_needleY : Int} {mo_hasFile : Int} {mo_format : Int} {mo_length : Int} {mo_bytes : Int → Int} {mo_heads : Int} {mo_late : Int} {mo_ran : Int} {mo_program : Int} {mo_thrown : Int} {mo_rowY : Int} {mo_stitches : Int} {R_pa_faultPlace : Int} {R_pa_stitchesRead : Int} {R_mo_thrown : Int} {R_mo_stitches : Int} (h_sp : σ0 0 = oC_sp ad sp_fieldCount sp_trimBound sp_planned) (h_pa : σ0 12 = oC_pa ad pa_size pa_format pa_faultPlace pa_stitchesRead) (h_pa_bytes : σ0 13 = .inl (cI, 49924, .inl (zA pa_bytes))) (h_mo : σ0 19 = oC_mo ad mo_fields mo_bound mo_points mo_crossings mo_isKnown mo_commands mo_needleX mo_needleY mo_hasFile mo_format mo_length mo_heads mo_late mo_ran mo_program mo_thrown mo_rowY mo_stitches) (h_mo_bytes : σ0 40 = .inl (cI, 70000, .inl (zA mo_bytes))) {ii : Int} (hiL : 0 ≤ ii ∧ ii + 7 ≤ L) (hcs : cells + 9 ≤ 83562 ∧ slots + 4300 ≤ 8845420) {ls : Array Slot} (hl : lv_has ls 10 [(0, .ref b), (1, .ref (ad 0)), (2, .ref (ad 19)), (3, .ref (ad 44)), (4, .ref (ad 45)), (5, .int (zI ii))]) (hf : f_law_reads pa_bytes pa_size pa_format pa_faultPlace pa_stitchesRead mo_hasFile mo_format mo_length mo_bytes mo_thrown mo_stitches = some (R_pa_faultPlace, R_pa_stitchesRead, R_mo_thrown, R_mo_stitches))
    (kk : ∀ (σ : Nat → va_E) (H : Heap) (locs : List Loc) (cells1 slots1 : Nat), cells1 ≤ cells + 9 → slots1 ≤ slots + 4300 → zH D ad N A s.heap σ H locs → ∀ (h_pa : σ 12 = oC_pa ad pa_size pa_format R_pa_faultPlace R_pa_stitchesRead) (h_mo : σ 19 = oC_mo ad mo_fields mo_bound mo_points mo_crossings mo_isKnown mo_commands mo_needleX mo_needleY mo_hasFile mo_format mo_length mo_heads mo_late mo_ran mo_program R_mo_thrown mo_rowY R_mo_stitches), ∀ (hbg : ∀ i : Nat, i ≠ 12 → i ≠ 19 → σ i = σ0 i) (ls : Array Slot), lv_has ls 10 [(0, .ref b), (1, .ref (ad 0)), (2, .ref (ad 19)), (3, .ref (ad 44)), (4, .ref (ad 45)), (5, .int (zI ii))] → W p l e room_1 s m args below meth c H locs cells1 slots1 Q (F0 m 1430 ls [])) : W p l e room_1 s m args below meth c H locs cells slots Q (F0 m 1165 ls []) := by
  have hI := zD_inj hH.2.1
  have g_c : cells ≤ 83562 := by omega
  have g_s : slots ≤ 8845420 := by omega
  have hk_out : 44 < N := by omega
  have hk_outD : 45 < N := by omega
  have hk_sp : 0 < N := by omega
  have hk_pa : 12 < N := by omega
  have hk_pa_bytes : 13 < N := by omega
  have hk_mo : 19 < N := by omega
  have hk_mo_bytes : 40 < N := by omega
  have hbg : ∀ i : Nat, i ≠ 12 → i ≠ 19 → σ0 i = σ0 i := fun _ _ _ => rfl
  unfold f_law_reads at hf
  refine lv_aload_n hx hb dL_law_1165 rfl (lv_at hl 1 rfl) ?_
  obtain ⟨r1, u2, u3, k4, hf⟩ := zb3_some hf
  refine zcVi (C := RX6) (As := []) (rest := []) hx hb hml hown hts hl.1 hK hH hA (c_X6_reads hI hN  h_sp h_pa h_pa_bytes k4) zk_t2_116 zk_t2_117 zk_t2_118 zk_t1_1 zk_t2_119 hd_X6_reads rfl ⟨rfl, rfl, Nat.le_of_ble_eq_true rfl, Nat.le_of_ble_eq_true rfl⟩ ⟨g_c, g_s⟩ hk_sp h_sp rfl rfl rfl (Nat.le_of_ble_eq_true rfl) dL_law_1166 (fun q6 σ5 Hσ5 lσ5 hp hH => ?_)
  obtain ⟨hr1, h_pa, hn⟩ := hp
  replace hr1 := hr1.symm; subst hr1
  have h_sp := (hn 0 (by decide)).trans h_sp
  have h_pa_bytes := (hn 13 (by decide)).trans h_pa_bytes
  have h_mo := (hn 19 (by decide)).trans h_mo
  have h_mo_bytes := (hn 40 (by decide)).trans h_mo_bytes
  have hbg : ∀ i : Nat, i ≠ 12 → i ≠ 19 → σ5 i = σ0 i := fun i a0 a1 => (hn i a0).trans (hbg i a0 a1)
  refine lv_aload_n hx hb dL_law_1169 rfl (lv_at hl 2 rfl) ?_
  obtain ⟨r7, u8, u9, k10, hf⟩ := zb3_some hf
  refine zcVi (C := RX7) (As := []) (rest := [.int (zI r1)]) hx hb hml hown hts hl.1 hK hH hA (c_X7_reads hI hN  h_mo h_mo_bytes k10) zk_t5_193 zk_t5_194 zk_t5_195 zk_t1_6 zk_t5_196 hd_X7_reads rfl ⟨rfl, rfl, Nat.le_of_ble_eq_true rfl, Nat.le_of_ble_eq_true rfl⟩ ⟨g_c, g_s⟩ hk_mo h_mo rfl rfl rfl (Nat.le_of_ble_eq_true rfl) dL_law_1170 (fun q12 σ11 Hσ11 lσ11 hp hH => ?_)
  obtain ⟨hr1, h_mo, hn⟩ := hp
  replace hr1 := hr1.symm; subst hr1
  have h_sp := (hn 0 (by decide)).trans h_sp
  have h_pa := (hn 12 (by decide)).trans h_pa
  have h_pa_bytes := (hn 13 (by decide)).trans h_pa_bytes
  have h_mo_bytes := (hn 40 (by decide)).trans h_mo_bytes
  have hbg : ∀ i : Nat, i ≠ 12 → i ≠ 19 → σ11 i = σ0 i := fun i a0 a1 => (hn i a1).trans (hbg i a0 a1)
  obtain ⟨k13, hf⟩ := zck_some hf
  refine lz_icmp_eq (tgt := 1430) hx hb k13 dL_law_1173 (by decide) (fun c14 => ?_) (fun c14 => ?_)
  · replace hf := (if_pos c14).symm.trans hf
    cases hf
    exact kk _ _ _ _ _ (by omega) (by omega) hH h_pa h_mo hbg _ (lv_sub hl [0, 1, 2, 3, 4, 5] rfl)
  · replace hf := (if_neg c14).symm.trans hf
    refine lv_iconst (v := zI 0) hx hb dL_law_1176 (by decide +kernel) ?_
    cases hf
def f_law_start (sp_waiting : Int → Int) (sp_trimBound : Int) (sp_planned : Int) (F_fd_colour : Int → Int) (F_fd_layer : Int → Int) (F_fd_column : Int → Int) (F_fd_cornerXs : Int → Int → Int) (F_fd_cornerYs : Int → Int → Int) (F_fd_crossings : Int → Int → Int) (F_fd_cornerCount : Int → Int) (F_fd_crossingCount : Int → Int) (F_fd_density : Int → Int) (F_fd_length : Int → Int) (F_fd_shift : Int → Int) (F_fd_pull : Int → Int) (F_fd_underlay : Int → Int) (F_fd_drawn : Int → Int) (F_pt_xs : Int → Int → Int) (F_pt_ys : Int → Int → Int) (F_pt_size : Int → Int) (pl_kinds : Int → Int) (pl_differencesX : Int → Int) (pl_differencesY : Int → Int) (pl_owners : Int → Int) (pl_kindCounts : Int → Int) (pl_threads : Int → Int) (pl_size : Int) (pl_seconds : UInt32) (pl_needleX : Int) (pl_needleY : Int) (pl_colour : Int) (ma_stitchesAhead : Int → Int) (ma_broken : Int → Int) (ma_brokeAt : Int → Int) (ma_stitches : Int → Int) (ma_headCount : Int) (ma_late : Int) (ma_commandCount : Int) (ma_place : Int) (mo_fields : Int) (mo_colour : Int → Int) (mo_layer : Int → Int) (mo_isColumn : Int → Int) (mo_corners : Int → Int) (mo_cornerX : Int → Int) (mo_cornerY : Int → Int) (mo_density : Int → Int) (mo_longest : Int → Int) (mo_shift : Int → Int) (mo_pull : Int → Int) (mo_hasUnderlay : Int → Int) (mo_bound : Int) (mo_pointX : Int → Int) (mo_pointY : Int → Int) (mo_points : Int) (mo_crossing : Int → Int) (mo_crossings : Int) (mo_isKnown : Int) (mo_commands : Int) (mo_kind : Int → Int) (mo_byX : Int → Int) (mo_byY : Int → Int) (mo_fieldOf : Int → Int) (mo_needleX : Int) (mo_needleY : Int) (mo_isSewn : Int → Int) (mo_heads : Int) (mo_late : Int) (mo_ran : Int) (mo_program : Int) (mo_kinds : Int → Int) (mo_brokenAt : Int → Int) (mo_sewn : Int → Int) (mo_thrown : Int) (mo_rowY : Int) (nF : Int) (w1 : Int) (w2 : Int) : Option ((Int → Int) × Int × (Int → Int → Int) × (Int → Int) × (Int → Int) × (Int → Int → Int) × (Int → Int → Int) × (Int → Int) × (Int → Int) × (Int → Int) × (Int → Int) × (Int → Int) × (Int → Int) × (Int → Int) × Int × UInt32 × Int × Int × Int × (Int → Int) × (Int → Int) × (Int → Int) × (Int → Int) × Int × Int × Int × Int × (Int → Int) × (Int → Int) × Int × (Int → Int) × Int × Int × Int × (Int → Int) × (Int → Int) × (Int → Int) × (Int → Int) × Int × Int × (Int → Int) × Int × Int × Int × Int × (Int → Int) × (Int → Int) × (Int → Int) × Int × Int) :=
  zb28 (f_L_start sp_waiting sp_trimBound sp_planned F_fd_colour F_fd_layer F_fd_column F_fd_cornerXs F_fd_cornerYs F_fd_crossings F_fd_cornerCount F_fd_crossingCount F_fd_density F_fd_length F_fd_shift F_fd_pull F_fd_underlay F_fd_drawn F_pt_xs F_pt_ys F_pt_size pl_kinds pl_differencesX pl_differencesY pl_owners pl_kindCounts pl_threads pl_size pl_seconds pl_needleX pl_needleY pl_colour ma_stitchesAhead ma_broken ma_brokeAt ma_stitches ma_headCount ma_late ma_commandCount ma_place nF w1 w2) fun r1 u2 u3 u4 u5 u6 u7 u8 u9 u10 u11 u12 u13 u14 u15 u16 u17 u18 u19 u20 u21 u22 u23 u24 u25 u26 u27 u28 =>
  zb23 (f_X7_start mo_fields mo_colour mo_layer mo_isColumn mo_corners mo_cornerX mo_cornerY mo_density mo_longest mo_shift mo_pull mo_hasUnderlay mo_bound mo_pointX mo_pointY mo_points mo_crossing mo_crossings mo_isKnown mo_commands mo_kind mo_byX mo_byY mo_fieldOf mo_needleX mo_needleY mo_isSewn mo_heads mo_late mo_ran mo_program mo_kinds mo_brokenAt mo_sewn mo_thrown mo_rowY w1 w2) fun a32 a33 u34 a35 u36 u37 u38 a39 a40 a41 a42 u43 u44 a45 u46 u47 u48 u49 a50 a51 a52 u53 u54 =>
  zb1 (f_X7_thrown u53) fun r57 =>
  zck (zR r57 ∧ zR r1) <|
  if r57 = r1 then
    some (u2, u3, u4, u5, u6, u7, u8, u9, u10, u11, u12, u13, u14, u15, u16, u17, u18, u19, u20, u21, u22, u23, u24, u25, u26, u27, u28, a32, a33, u34, a35, u36, u37, u38, a39, a40, a41, a42, u43, u44, a45, u46, u47, u48, u49, a50, a51, a52, u53, u54)
  else
    none
set_option maxHeartbeats 4000000 in
set_option maxRecDepth 100000 in
theorem w_law_start {p : Program} {l : Launch} {e : Env} {s : State} {m : MethodId} {args : Array Value} {below : List Frame} {meth : Method} {c : Code} {Q : State → Prop} {D : va_G} {cI cZ cF cL cD : ClassId} {b L : Nat} {xs : Nat → Int32} {A : Nat → Prop} (hx : p.tables.exec = Jvm.exec) (hb : c.code = code) (hml : c.maxLocals = 10) (hown : s.vm.findClass RL = some m.cls) (hts : ∀ w ∈ wsL_law, w.before args s = true) (hst : l.stackTraces = false) (hNc : zNc s) (hX0 : va_X b L xs s s.heap) (hbl : b < s.heap.size) (hbA : ¬ A b) (hA : ∀ q, s.heap.size ≤ q → A q) (hK : zK D (zT cI cZ cF cL cD) s) (hXs : zXs A s s.heap) (hL : L ≤ 3584)
    {ad : Nat → Nat} {N : Nat} {nF : Int} (hN : 46 ≤ N) (hNF : N = 46 + 7 * nF.toNat) {σ0 : Nat → va_E} {H : Heap} {locs : List Loc} {cells slots : Nat} (hH : zH D ad N A s.heap σ0 H locs) {sp_waiting : Int → Int} {sp_fieldCount : Int} {sp_trimBound : Int} {sp_planned : Int} {F_fd_colour : Int → Int} {F_fd_layer : Int → Int} {F_fd_column : Int → Int} {F_fd_cornerXs : Int → Int → Int} {F_fd_cornerYs : Int → Int → Int} {F_fd_crossings : Int → Int → Int} {F_fd_cornerCount : Int → Int} {F_fd_crossingCount : Int → Int} {F_fd_density : Int → Int} {F_fd_length : Int → Int} {F_fd_shift : Int → Int} {F_fd_pull : Int → Int} {F_fd_underlay : Int → Int} {F_fd_drawn : Int → Int} {F_pt_xs : Int → Int → Int} {F_pt_ys : Int → Int → Int} {F_pt_size : Int → Int} {pl_kinds : Int → Int} {pl_differencesX : Int → Int} {pl_differencesY : Int → Int} {pl_owners : Int → Int} {pl_kindCounts : Int → Int} {pl_threads : Int → Int} {pl_size : Int} {pl_seconds : UInt32} {pl_needleX : Int} {pl_needleY : Int} {pl_colour : Int} {ma_stitchesAhead : Int → Int} {ma_broken : Int → Int} {ma_brokeAt : Int → Int} {ma_stitches : Int → Int} {ma_headCount : Int} {ma_late : Int} {ma_commandCount : Int} {ma_place : Int} {mo_fields : Int} {mo_colour : Int → Int} {mo_layer : Int → Int} {mo_isColumn : Int → Int} {mo_corners : Int → Int} {mo_cornerX : Int → Int} {mo_cornerY : Int → Int} {mo_density : Int → Int} {mo_longest : Int → Int} {mo_shift : Int → Int} {mo_pull : Int → Int} {mo_hasUnderlay : Int → Int} {mo_bound : Int} {mo_pointX : Int → Int} {mo_pointY : Int → Int} {mo_points : Int} {mo_crossing : Int → Int} {mo_crossings : Int} {mo_isKnown : Int} {mo_commands : Int} {mo_kind : Int → Int} {mo_byX : Int → Int} {mo_byY : Int → Int} {mo_fieldOf : Int → Int} {mo_needleX : Int} {mo_needleY : Int} {mo_isSewn : Int → Int} {mo_hasFile : Int} {mo_format : Int} {mo_length : Int} {mo_heads : Int} {mo_late : Int} {mo_ran : Int} {mo_program : Int} {mo_kinds : Int → Int} {mo_brokenAt : Int → Int} {mo_sewn : Int → Int} {mo_thrown : Int} {mo_rowY : Int} {mo_stitches : Int} {R_sp_waiting : Int → Int} {R_sp_planned : Int} {R_F_fd_crossings : Int → Int → Int} {R_F_fd_crossingCount : Int → Int} {R_F_fd_drawn : Int → Int} {R_F_pt_xs : Int → Int → Int} {R_F_pt_ys : Int → Int → Int} {R_F_pt_size : Int → Int} {R_pl_kinds : Int → Int} {R_pl_differencesX : Int → Int} {R_pl_differencesY : Int → Int} {R_pl_owners : Int → Int} {R_pl_kindCounts : Int → Int} {R_pl_threads : Int → Int} {R_pl_size : Int} {R_pl_seconds : UInt32} {R_pl_needleX : Int} {R_pl_needleY : Int} {R_pl_colour : Int} {R_ma_stitchesAhead : Int → Int} {R_ma_broken : Int → Int} {R_ma_brokeAt : Int → Int} {R_ma_stitches : Int → Int} {R_ma_headCount : Int} {R_ma_late : Int} {R_ma_commandCount : Int} {R_ma_place : Int} {R_mo_pointX : Int → Int} {R_mo_pointY : Int → Int} {R_mo_points : Int} {R_mo_crossing : Int → Int} {R_mo_crossings : Int} {R_mo_isKnown : Int} {R_mo_commands : Int} {R_mo_kind : Int → Int} {R_mo_byX : Int → Int} {R_mo_byY : Int → Int} {R_mo_fieldOf : Int → Int} {R_mo_needleX : Int} {R_mo_needleY : Int} {R_mo_isSewn : Int → Int} {R_mo_heads : Int} {R_mo_late : Int} {R_mo_ran : Int} {R_mo_program : Int} {R_mo_kinds : Int → Int} {R_mo_brokenAt : Int → Int} {R_mo_sewn : Int → Int} {R_mo_thrown : Int} {R_mo_rowY : Int} (h_sp : σ0 0 = oC_sp ad sp_fieldCount sp_trimBound sp_planned) (h_sp_fields : σ0 1 = .inl (cF, 8, .inr (.inr (.inr (.inr (zFA ad nF)))))) (h_sp_waiting : σ0 2 = .inl (cZ, 8, .inl (zA sp_waiting))) (h_pl : σ0 3 = oC_pl ad pl_size pl_seconds pl_needleX pl_needleY pl_colour) (h_pl_kinds : σ0 4 = .inl (cI, 16641, .inl (zA pl_kinds))) (h_pl_differencesX : σ0 5 = .inl (cI, 16641, .inl (zA pl_differencesX))) (h_pl_differencesY : σ0 6 = .inl (cI, 16641, .inl (zA pl_differencesY))) (h_pl_owners : σ0 7 = .inl (cI, 16641, .inl (zA pl_owners))) (h_pl_kindCounts : σ0 8 = .inl (cI, 5, .inl (zA pl_kindCounts))) (h_pl_threads : σ0 9 = .inl (cI, 6, .inl (zA pl_threads))) (h_ma : σ0 14 = oC_ma ad ma_headCount ma_late ma_commandCount ma_place) (h_ma_stitchesAhead : σ0 15 = .inl (cI, 16642, .inl (zA ma_stitchesAhead))) (h_ma_broken : σ0 16 = .inl (cZ, 4, .inl (zA ma_broken))) (h_ma_brokeAt : σ0 17 = .inl (cI, 4, .inl (zA ma_brokeAt))) (h_ma_stitches : σ0 18 = .inl (cI, 4, .inl (zA ma_stitches))) (h_mo : σ0 19 = oC_mo ad mo_fields mo_bound mo_points mo_crossings mo_isKnown mo_commands mo_needleX mo_needleY mo_hasFile mo_format mo_length mo_heads mo_late mo_ran mo_program mo_thrown mo_rowY mo_stitches) (h_mo_colour : σ0 20 = .inl (cI, 8, .inl (zA mo_colour))) (h_mo_layer : σ0 21 = .inl (cI, 8, .inl (zA mo_layer))) (h_mo_isColumn : σ0 22 = .inl (cZ, 8, .inl (zA mo_isColumn))) (h_mo_corners : σ0 23 = .inl (cI, 8, .inl (zA mo_corners))) (h_mo_cornerX : σ0 24 = .inl (cI, 64, .inl (zA mo_cornerX))) (h_mo_cornerY : σ0 25 = .inl (cI, 64, .inl (zA mo_cornerY))) (h_mo_density : σ0 26 = .inl (cI, 8, .inl (zA mo_density))) (h_mo_longest : σ0 27 = .inl (cI, 8, .inl (zA mo_longest))) (h_mo_shift : σ0 28 = .inl (cI, 8, .inl (zA mo_shift))) (h_mo_pull : σ0 29 = .inl (cI, 8, .inl (zA mo_pull))) (h_mo_hasUnderlay : σ0 30 = .inl (cZ, 8, .inl (zA mo_hasUnderlay))) (h_mo_pointX : σ0 31 = .inl (cI, 4096, .inl (zA mo_pointX))) (h_mo_pointY : σ0 32 = .inl (cI, 4096, .inl (zA mo_pointY))) (h_mo_crossing : σ0 33 = .inl (cI, 8, .inl (zA mo_crossing))) (h_mo_kind : σ0 34 = .inl (cI, 20000, .inl (zA mo_kind))) (h_mo_byX : σ0 35 = .inl (cI, 20000, .inl (zA mo_byX))) (h_mo_byY : σ0 36 = .inl (cI, 20000, .inl (zA mo_byY))) (h_mo_fieldOf : σ0 37 = .inl (cI, 20000, .inl (zA mo_fieldOf))) (h_mo_isSewn : σ0 38 = .inl (cZ, 8, .inl (zA mo_isSewn))) (h_mo_kinds : σ0 41 = .inl (cI, 20000, .inl (zA mo_kinds))) (h_mo_brokenAt : σ0 42 = .inl (cI, 4, .inl (zA mo_brokenAt))) (h_mo_sewn : σ0 43 = .inl (cI, 4, .inl (zA mo_sewn))) (h_FF : zFF ad cI nF σ0 F_fd_colour F_fd_layer F_fd_column F_fd_cornerXs F_fd_cornerYs F_fd_crossings F_fd_cornerCount F_fd_crossingCount F_fd_density F_fd_length F_fd_shift F_fd_pull F_fd_underlay F_fd_drawn F_pt_xs F_pt_ys F_pt_size) {ii : Int} (hiL : 0 ≤ ii ∧ ii + 7 ≤ L) {w1 : Int} (hw1 : xs (ii.toNat + 1) = zI w1) (hR1 : zR w1) {w2 : Int} (hw2 : xs (ii.toNat + 2) = zI w2) (hR2 : zR w2) (hcs : cells + 9 ≤ 83562 ∧ slots + 4300 ≤ 8845420) {ls : Array Slot} (hl : lv_has ls 10 [(0, .ref b), (1, .ref (ad 0)), (2, .ref (ad 19)), (3, .ref (ad 44)), (4, .ref (ad 45)), (5, .int (zI ii))]) (hf : f_law_start sp_waiting sp_trimBound sp_planned F_fd_colour F_fd_layer F_fd_column F_fd_cornerXs F_fd_cornerYs F_fd_crossings F_fd_cornerCount F_fd_crossingCount F_fd_density F_fd_length F_fd_shift F_fd_pull F_fd_underlay F_fd_drawn F_pt_xs F_pt_ys F_pt_size pl_kinds pl_differencesX pl_differencesY pl_owners pl_kindCounts pl_threads pl_size pl_seconds pl_needleX pl_needleY pl_colour ma_stitchesAhead ma_broken ma_brokeAt ma_stitches ma_headCount ma_late ma_commandCount ma_place mo_fields mo_colour mo_layer mo_isColumn mo_corners mo_cornerX mo_cornerY mo_density mo_longest mo_shift mo_pull mo_hasUnderlay mo_bound mo_pointX mo_pointY mo_points mo_crossing mo_crossings mo_isKnown mo_commands mo_kind mo_byX mo_byY mo_fieldOf mo_needleX mo_needleY mo_isSewn mo_heads mo_late mo_ran mo_program mo_kinds mo_brokenAt mo_sewn mo_thrown mo_rowY nF w1 w2 = some (R_sp_waiting, R_sp_planned, R_F_fd_crossings, R_F_fd_crossingCount, R_F_fd_drawn, R_F_pt_xs, R_F_pt_ys, R_F_pt_size, R_pl_kinds, R_pl_differencesX, R_pl_differencesY, R_pl_owners, R_pl_kindCounts, R_pl_threads, R_pl_size, R_pl_seconds, R_pl_needleX, R_pl_needleY, R_pl_colour, R_ma_stitchesAhead, R_ma_broken, R_ma_brokeAt, R_ma_stitches, R_ma_headCount, R_ma_late, R_ma_commandCount, R_ma_place, R_mo_pointX, R_mo_pointY, R_mo_points, R_mo_crossing, R_mo_crossings, R_mo_isKnown, R_mo_commands, R_mo_kind, R_mo_byX, R_mo_byY, R_mo_fieldOf, R_mo_needleX, R_mo_needleY, R_mo_isSewn, R_mo_heads, R_mo_late, R_mo_ran, R_mo_program, R_mo_kinds, R_mo_brokenAt, R_mo_sewn, R_mo_thrown, R_mo_rowY))
    (kk : ∀ (σ : Nat → va_E) (H : Heap) (locs : List Loc) (cells1 slots1 : Nat), cells1 ≤ cells + 9 → slots1 ≤ slots + 4300 → zH D ad N A s.heap σ H locs → ∀ (h_sp : σ 0 = oC_sp ad sp_fieldCount sp_trimBound R_sp_planned) (h_sp_waiting : σ 2 = .inl (cZ, 8, .inl (zA R_sp_waiting))) (h_pl : σ 3 = oC_pl ad R_pl_size R_pl_seconds R_pl_needleX R_pl_needleY R_pl_colour) (h_pl_kinds : σ 4 = .inl (cI, 16641, .inl (zA R_pl_kinds))) (h_pl_differencesX : σ 5 = .inl (cI, 16641, .inl (zA R_pl_differencesX))) (h_pl_differencesY : σ 6 = .inl (cI, 16641, .inl (zA R_pl_differencesY))) (h_pl_owners : σ 7 = .inl (cI, 16641, .inl (zA R_pl_owners))) (h_pl_kindCounts : σ 8 = .inl (cI, 5, .inl (zA R_pl_kindCounts))) (h_pl_threads : σ 9 = .inl (cI, 6, .inl (zA R_pl_threads))) (h_ma : σ 14 = oC_ma ad R_ma_headCount R_ma_late R_ma_commandCount R_ma_place) (h_ma_stitchesAhead : σ 15 = .inl (cI, 16642, .inl (zA R_ma_stitchesAhead))) (h_ma_broken : σ 16 = .inl (cZ, 4, .inl (zA R_ma_broken))) (h_ma_brokeAt : σ 17 = .inl (cI, 4, .inl (zA R_ma_brokeAt))) (h_ma_stitches : σ 18 = .inl (cI, 4, .inl (zA R_ma_stitches))) (h_mo : σ 19 = oC_mo ad mo_fields mo_bound R_mo_points R_mo_crossings R_mo_isKnown R_mo_commands R_mo_needleX R_mo_needleY mo_hasFile mo_format mo_length R_mo_heads R_mo_late R_mo_ran R_mo_program R_mo_thrown R_mo_rowY mo_stitches) (h_mo_pointX : σ 31 = .inl (cI, 4096, .inl (zA R_mo_pointX))) (h_mo_pointY : σ 32 = .inl (cI, 4096, .inl (zA R_mo_pointY))) (h_mo_crossing : σ 33 = .inl (cI, 8, .inl (zA R_mo_crossing))) (h_mo_kind : σ 34 = .inl (cI, 20000, .inl (zA R_mo_kind))) (h_mo_byX : σ 35 = .inl (cI, 20000, .inl (zA R_mo_byX))) (h_mo_byY : σ 36 = .inl (cI, 20000, .inl (zA R_mo_byY))) (h_mo_fieldOf : σ 37 = .inl (cI, 20000, .inl (zA R_mo_fieldOf))) (h_mo_isSewn : σ 38 = .inl (cZ, 8, .inl (zA R_mo_isSewn))) (h_mo_kinds : σ 41 = .inl (cI, 20000, .inl (zA R_mo_kinds))) (h_mo_brokenAt : σ 42 = .inl (cI, 4, .inl (zA R_mo_brokenAt))) (h_mo_sewn : σ 43 = .inl (cI, 4, .inl (zA R_mo_sewn))) (h_FF : zFF ad cI nF σ F_fd_colour F_fd_layer F_fd_column F_fd_cornerXs F_fd_cornerYs R_F_fd_crossings F_fd_cornerCount R_F_fd_crossingCount F_fd_density F_fd_length F_fd_shift F_fd_pull F_fd_underlay R_F_fd_drawn R_F_pt_xs R_F_pt_ys R_F_pt_size), ∀ (hbg : ∀ i : Nat, i < 46 → i ≠ 0 → i ≠ 2 → i ≠ 3 → i ≠ 4 → i ≠ 5 → i ≠ 6 → i ≠ 7 → i ≠ 8 → i ≠ 9 → i ≠ 14 → i ≠ 15 → i ≠ 16 → i ≠ 17 → i ≠ 18 → i ≠ 19 → i ≠ 31 → i ≠ 32 → i ≠ 33 → i ≠ 34 → i ≠ 35 → i ≠ 36 → i ≠ 37 → i ≠ 38 → i ≠ 41 → i ≠ 42 → i ≠ 43 → σ i = σ0 i) (ls : Array Slot), lv_has ls 10 [(0, .ref b), (1, .ref (ad 0)), (2, .ref (ad 19)), (3, .ref (ad 44)), (4, .ref (ad 45)), (5, .int (zI ii))] → W p l e room_1 s m args below meth c H locs cells1 slots1 Q (F0 m 1430 ls [])) : W p l e room_1 s m args below meth c H locs cells slots Q (F0 m 1178 ls []) := by
  have hI := zD_inj hH.2.1
  have g_c : cells ≤ 83562 := by omega
  have g_s : slots ≤ 8845420 := by omega
  have hk_out : 44 < N := by omega
  have hk_outD : 45 < N := by omega
  have hk_sp : 0 < N := by omega
  have hk_sp_fields : 1 < N := by omega
  have hk_sp_waiting : 2 < N := by omega
  have hk_pl : 3 < N := by omega
  have hk_pl_kinds : 4 < N := by omega
  have hk_pl_differencesX : 5 < N := by omega
  have hk_pl_differencesY : 6 < N := by omega
  have hk_pl_owners : 7 < N := by omega
  have hk_pl_kindCounts : 8 < N := by omega
  have hk_pl_threads : 9 < N := by omega
  have hk_ma : 14 < N := by omega
  have hk_ma_stitchesAhead : 15 < N := by omega
  have hk_ma_broken : 16 < N := by omega
  have hk_ma_brokeAt : 17 < N := by omega
  have hk_ma_stitches : 18 < N := by omega
  have hk_mo : 19 < N := by omega
  have hk_mo_colour : 20 < N := by omega
  have hk_mo_layer : 21 < N := by omega
  have hk_mo_isColumn : 22 < N := by omega
  have hk_mo_corners : 23 < N := by omega
  have hk_mo_cornerX : 24 < N := by omega
  have hk_mo_cornerY : 25 < N := by omega
  have hk_mo_density : 26 < N := by omega
  have hk_mo_longest : 27 < N := by omega
  have hk_mo_shift : 28 < N := by omega
  have hk_mo_pull : 29 < N := by omega
  have hk_mo_hasUnderlay : 30 < N := by omega
  have hk_mo_pointX : 31 < N := by omega
  have hk_mo_pointY : 32 < N := by omega
  have hk_mo_crossing : 33 < N := by omega
  have hk_mo_kind : 34 < N := by omega
  have hk_mo_byX : 35 < N := by omega
  have hk_mo_byY : 36 < N := by omega
  have hk_mo_fieldOf : 37 < N := by omega
  have hk_mo_isSewn : 38 < N := by omega
  have hk_mo_kinds : 41 < N := by omega
  have hk_mo_brokenAt : 42 < N := by omega
  have hk_mo_sewn : 43 < N := by omega
  have hbg : ∀ i : Nat, i < 46 → i ≠ 0 → i ≠ 2 → i ≠ 3 → i ≠ 4 → i ≠ 5 → i ≠ 6 → i ≠ 7 → i ≠ 8 → i ≠ 9 → i ≠ 14 → i ≠ 15 → i ≠ 16 → i ≠ 17 → i ≠ 18 → i ≠ 19 → i ≠ 31 → i ≠ 32 → i ≠ 33 → i ≠ 34 → i ≠ 35 → i ≠ 36 → i ≠ 37 → i ≠ 38 → i ≠ 41 → i ≠ 42 → i ≠ 43 → σ0 i = σ0 i := fun _ _ _ _ _ _ _ _ _ _ _ _ _ _ _ _ _ _ _ _ _ _ _ _ _ _ _ _ => rfl
  unfold f_law_start at hf
  refine lv_aload_n hx hb dL_law_1178 rfl (lv_at hl 1 rfl) ?_
  refine lv_aload_n hx hb dL_law_1179 rfl (lv_at hl 0 rfl) ?_
  refine lv_iload hx hb dL_law_1180 (lv_at hl 5 rfl) ?_
  refine lv_iconst (v := zI 1) hx hb dL_law_1182 (by decide +kernel) ?_
  refine lz_iadd hx hb dL_law_1183 ?_
  refine lz_sld hx hb hX0 hbl hbA hH.2.2 hiL hL 1 (by decide) hw1 dL_law_1184 ?_
  refine lv_aload_n hx hb dL_law_1185 rfl (lv_at hl 0 rfl) ?_
  refine lv_iload hx hb dL_law_1186 (lv_at hl 5 rfl) ?_
  refine lv_iconst (v := zI 2) hx hb dL_law_1188 (by decide +kernel) ?_
  refine lz_iadd hx hb dL_law_1189 ?_
  refine lz_sld hx hb hX0 hbl hbA hH.2.2 hiL hL 2 (by decide) hw2 dL_law_1190 ?_
  obtain ⟨r1, u2, u3, u4, u5, u6, u7, u8, u9, u10, u11, u12, u13, u14, u15, u16, u17, u18, u19, u20, u21, u22, u23, u24, u25, u26, u27, u28, k29, hf⟩ := zb28_some hf
  refine zcH (As := [.ref (ad 0), .int (zI w1), .int (zI w2)]) (rest := []) hx hb hml hown hts hl.1 hK hH hA (hXs.kept hH.2.2.2.1) hNc (c_L_start (zD_inj hH.2.1) hN hNF hst h_sp h_sp_fields h_sp_waiting h_pl h_pl_kinds h_pl_differencesX h_pl_differencesY h_pl_owners h_pl_kindCounts h_pl_threads h_ma h_ma_stitchesAhead h_ma_broken h_ma_brokeAt h_ma_stitches h_FF k29) zk_t4_24 zk_t4_25 zk_t1_0 zk_t4_26 hd_L_start rfl ⟨rfl, rfl, Nat.le_of_ble_eq_true rfl, Nat.le_of_ble_eq_true rfl⟩ ⟨by show _ ≤ 83562; omega, by show _ ≤ 8845420; omega⟩ rfl (Nat.le_of_ble_eq_true rfl) dL_law_1191 (fun q31 σ30 Hσ30 lσ30 hp hH => ?_)
  obtain ⟨hr1, h_sp, h_sp_waiting, h_pl, h_pl_kinds, h_pl_differencesX, h_pl_differencesY, h_pl_owners, h_pl_kindCounts, h_pl_threads, h_ma, h_ma_stitchesAhead, h_ma_broken, h_ma_brokeAt, h_ma_stitches, h_FF, hn⟩ := hp
  subst hr1
  have h_sp_fields := (hn 1 (by decide) (by decide) (by decide) (by decide) (by decide) (by decide) (by decide) (by decide) (by decide) (by decide) (by decide) (by decide) (by decide) (by decide) (by decide)).trans h_sp_fields
  have h_mo := (hn 19 (by decide) (by decide) (by decide) (by decide) (by decide) (by decide) (by decide) (by decide) (by decide) (by decide) (by decide) (by decide) (by decide) (by decide) (by decide)).trans h_mo
  have h_mo_colour := (hn 20 (by decide) (by decide) (by decide) (by decide) (by decide) (by decide) (by decide) (by decide) (by decide) (by decide) (by decide) (by decide) (by decide) (by decide) (by decide)).trans h_mo_colour
  have h_mo_layer := (hn 21 (by decide) (by decide) (by decide) (by decide) (by decide) (by decide) (by decide) (by decide) (by decide) (by decide) (by decide) (by decide) (by decide) (by decide) (by decide)).trans h_mo_layer
  have h_mo_isColumn := (hn 22 (by decide) (by decide) (by decide) (by decide) (by decide) (by decide) (by decide) (by decide) (by decide) (by decide) (by decide) (by decide) (by decide) (by decide) (by decide)).trans h_mo_isColumn
  have h_mo_corners := (hn 23 (by decide) (by decide) (by decide) (by decide) (by decide) (by decide) (by decide) (by decide) (by decide) (by decide) (by decide) (by decide) (by decide) (by decide) (by decide)).trans h_mo_corners
  have h_mo_cornerX := (hn 24 (by decide) (by decide) (by decide) (by decide) (by decide) (by decide) (by decide) (by decide) (by decide) (by decide) (by decide) (by decide) (by decide) (by decide) (by decide)).trans h_mo_cornerX
  have h_mo_cornerY := (hn 25 (by decide) (by decide) (by decide) (by decide) (by decide) (by decide) (by decide) (by decide) (by decide) (by decide) (by decide) (by decide) (by decide) (by decide) (by decide)).trans h_mo_cornerY
  have h_mo_density := (hn 26 (by decide) (by decide) (by decide) (by decide) (by decide) (by decide) (by decide) (by decide) (by decide) (by decide) (by decide) (by decide) (by decide) (by decide) (by decide)).trans h_mo_density
  have h_mo_longest := (hn 27 (by decide) (by decide) (by decide) (by decide) (by decide) (by decide) (by decide) (by decide) (by decide) (by decide) (by decide) (by decide) (by decide) (by decide) (by decide)).trans h_mo_longest
  have h_mo_shift := (hn 28 (by decide) (by decide) (by decide) (by decide) (by decide) (by decide) (by decide) (by decide) (by decide) (by decide) (by decide) (by decide) (by decide) (by decide) (by decide)).trans h_mo_shift
  have h_mo_pull := (hn 29 (by decide) (by decide) (by decide) (by decide) (by decide) (by decide) (by decide) (by decide) (by decide) (by decide) (by decide) (by decide) (by decide) (by decide) (by decide)).trans h_mo_pull
  have h_mo_hasUnderlay := (hn 30 (by decide) (by decide) (by decide) (by decide) (by decide) (by decide) (by decide) (by decide) (by decide) (by decide) (by decide) (by decide) (by decide) (by decide) (by decide)).trans h_mo_hasUnderlay
  have h_mo_pointX := (hn 31 (by decide) (by decide) (by decide) (by decide) (by decide) (by decide) (by decide) (by decide) (by decide) (by decide) (by decide) (by decide) (by decide) (by decide) (by decide)).trans h_mo_pointX
  have h_mo_pointY := (hn 32 (by decide) (by decide) (by decide) (by decide) (by decide) (by decide) (by decide) (by decide) (by decide) (by decide) (by decide) (by decide) (by decide) (by decide) (by decide)).trans h_mo_pointY
  have h_mo_crossing := (hn 33 (by decide) (by decide) (by decide) (by decide) (by decide) (by decide) (by decide) (by decide) (by decide) (by decide) (by decide) (by decide) (by decide) (by decide) (by decide)).trans h_mo_crossing
  have h_mo_kind := (hn 34 (by decide) (by decide) (by decide) (by decide) (by decide) (by decide) (by decide) (by decide) (by decide) (by decide) (by decide) (by decide) (by decide) (by decide) (by decide)).trans h_mo_kind
  have h_mo_byX := (hn 35 (by decide) (by decide) (by decide) (by decide) (by decide) (by decide) (by decide) (by decide) (by decide) (by decide) (by decide) (by decide) (by decide) (by decide) (by decide)).trans h_mo_byX
  have h_mo_byY := (hn 36 (by decide) (by decide) (by decide) (by decide) (by decide) (by decide) (by decide) (by decide) (by decide) (by decide) (by decide) (by decide) (by decide) (by decide) (by decide)).trans h_mo_byY
  have h_mo_fieldOf := (hn 37 (by decide) (by decide) (by decide) (by decide) (by decide) (by decide) (by decide) (by decide) (by decide) (by decide) (by decide) (by decide) (by decide) (by decide) (by decide)).trans h_mo_fieldOf
  have h_mo_isSewn := (hn 38 (by decide) (by decide) (by decide) (by decide) (by decide) (by decide) (by decide) (by decide) (by decide) (by decide) (by decide) (by decide) (by decide) (by decide) (by decide)).trans h_mo_isSewn
  have h_mo_kinds := (hn 41 (by decide) (by decide) (by decide) (by decide) (by decide) (by decide) (by decide) (by decide) (by decide) (by decide) (by decide) (by decide) (by decide) (by decide) (by decide)).trans h_mo_kinds
  have h_mo_brokenAt := (hn 42 (by decide) (by decide) (by decide) (by decide) (by decide) (by decide) (by decide) (by decide) (by decide) (by decide) (by decide) (by decide) (by decide) (by decide) (by decide)).trans h_mo_brokenAt
  have h_mo_sewn := (hn 43 (by decide) (by decide) (by decide) (by decide) (by decide) (by decide) (by decide) (by decide) (by decide) (by decide) (by decide) (by decide) (by decide) (by decide) (by decide)).trans h_mo_sewn
  have hbg : ∀ i : Nat, i < 46 → i ≠ 0 → i ≠ 2 → i ≠ 3 → i ≠ 4 → i ≠ 5 → i ≠ 6 → i ≠ 7 → i ≠ 8 → i ≠ 9 → i ≠ 14 → i ≠ 15 → i ≠ 16 → i ≠ 17 → i ≠ 18 → i ≠ 19 → i ≠ 31 → i ≠ 32 → i ≠ 33 → i ≠ 34 → i ≠ 35 → i ≠ 36 → i ≠ 37 → i ≠ 38 → i ≠ 41 → i ≠ 42 → i ≠ 43 → σ30 i = σ0 i := fun i h46 a0 a1 a2 a3 a4 a5 a6 a7 a8 a9 a10 a11 a12 a13 a14 a15 a16 a17 a18 a19 a20 a21 a22 a23 a24 a25 => (hn i h46 a0 a1 a2 a3 a4 a5 a6 a7 a8 a9 a10 a11 a12 a13).trans (hbg i h46 a0 a1 a2 a3 a4 a5 a6 a7 a8 a9 a10 a11 a12 a13 a14 a15 a16 a17 a18 a19 a20 a21 a22 a23 a24 a25)
  have g_c : cells + 1 ≤ 83562 := by omega
  have g_s : slots + 6 ≤ 8845420 := by omega
  refine lv_istore (lv' := [(6, .int (zI r1)), (0, .ref b), (1, .ref (ad 0)), (2, .ref (ad 19)), (3, .ref (ad 44)), (4, .ref (ad 45)), (5, .int (zI ii))]) hx hb dL_law_1194 hl (by decide) rfl (fun ls hl => ?_)
  refine lv_aload_n hx hb dL_law_1196 rfl (lv_at hl 3 rfl) ?_
  refine lv_aload_n hx hb dL_law_1197 rfl (lv_at hl 1 rfl) ?_
  refine lv_iload hx hb dL_law_1198 (lv_at hl 6 rfl) ?_
  refine lv_iconst (v := zI 1) hx hb dL_law_1200 (by decide +kernel) ?_
  refine lz_iadd hx hb dL_law_1201 ?_
  refine lz_sld hx hb hX0 hbl hbA hH.2.2 hiL hL 1 (by decide) hw1 dL_law_1202 ?_
  refine lv_aload_n hx hb dL_law_1203 rfl (lv_at hl 1 rfl) ?_
  refine lv_iload hx hb dL_law_1204 (lv_at hl 6 rfl) ?_
  refine lv_iconst (v := zI 2) hx hb dL_law_1206 (by decide +kernel) ?_
  refine lz_iadd hx hb dL_law_1207 ?_
  refine lz_sld hx hb hX0 hbl hbA hH.2.2 hiL hL 2 (by decide) hw2 dL_law_1208 ?_
  obtain ⟨a32, a33, u34, a35, u36, u37, u38, a39, a40, a41, a42, u43, u44, a45, u46, u47, u48, u49, a50, a51, a52, u53, u54, k55, hf⟩ := zb23_some hf
  refine zcVv (C := RX7) (As := [.int (zI w1), .int (zI w2)]) (rest := []) hx hb hml hown hts hl.1 hK hH hA (c_X7_start hI hN  h_mo h_mo_colour h_mo_layer h_mo_isColumn h_mo_corners h_mo_cornerX h_mo_cornerY h_mo_density h_mo_longest h_mo_shift h_mo_pull h_mo_hasUnderlay h_mo_pointX h_mo_pointY h_mo_crossing h_mo_kind h_mo_byX h_mo_byY h_mo_fieldOf h_mo_isSewn h_mo_kinds h_mo_brokenAt h_mo_sewn k55) zk_t5_197 zk_t5_198 zk_t5_199 zk_t1_6 zk_t5_200 hd_X7_start rfl ⟨rfl, rfl, Nat.le_of_ble_eq_true rfl, Nat.le_of_ble_eq_true rfl⟩ ⟨g_c, g_s⟩ hk_mo h_mo rfl rfl rfl (Nat.le_of_ble_eq_true rfl) dL_law_1209 (fun σ56 Hσ56 lσ56 hp hH => ?_)
  obtain ⟨h_mo, h_mo_pointX, h_mo_pointY, h_mo_crossing, h_mo_kind, h_mo_byX, h_mo_byY, h_mo_fieldOf, h_mo_isSewn, h_mo_kinds, h_mo_brokenAt, h_mo_sewn, hn⟩ := hp
  have h_sp := (hn 0 (by decide) (by decide) (by decide) (by decide) (by decide) (by decide) (by decide) (by decide) (by decide) (by decide) (by decide) (by decide)).trans h_sp
  have h_sp_fields := (hn 1 (by decide) (by decide) (by decide) (by decide) (by decide) (by decide) (by decide) (by decide) (by decide) (by decide) (by decide) (by decide)).trans h_sp_fields
  have h_sp_waiting := (hn 2 (by decide) (by decide) (by decide) (by decide) (by decide) (by decide) (by decide) (by decide) (by decide) (by decide) (by decide) (by decide)).trans h_sp_waiting
  have h_pl := (hn 3 (by decide) (by decide) (by decide) (by decide) (by decide) (by decide) (by decide) (by decide) (by decide) (by decide) (by decide) (by decide)).trans h_pl
  have h_pl_kinds := (hn 4 (by decide) (by decide) (by decide) (by decide) (by decide) (by decide) (by decide) (by decide) (by decide) (by decide) (by decide) (by decide)).trans h_pl_kinds
  have h_pl_differencesX := (hn 5 (by decide) (by decide) (by decide) (by decide) (by decide) (by decide) (by decide) (by decide) (by decide) (by decide) (by decide) (by decide)).trans h_pl_differencesX
  have h_pl_differencesY := (hn 6 (by decide) (by decide) (by decide) (by decide) (by decide) (by decide) (by decide) (by decide) (by decide) (by decide) (by decide) (by decide)).trans h_pl_differencesY
  have h_pl_owners := (hn 7 (by decide) (by decide) (by decide) (by decide) (by decide) (by decide) (by decide) (by decide) (by decide) (by decide) (by decide) (by decide)).trans h_pl_owners
  have h_pl_kindCounts := (hn 8 (by decide) (by decide) (by decide) (by decide) (by decide) (by decide) (by decide) (by decide) (by decide) (by decide) (by decide) (by decide)).trans h_pl_kindCounts
  have h_pl_threads := (hn 9 (by decide) (by decide) (by decide) (by decide) (by decide) (by decide) (by decide) (by decide) (by decide) (by decide) (by decide) (by decide)).trans h_pl_threads
  have h_ma := (hn 14 (by decide) (by decide) (by decide) (by decide) (by decide) (by decide) (by decide) (by decide) (by decide) (by decide) (by decide) (by decide)).trans h_ma
  have h_ma_stitchesAhead := (hn 15 (by decide) (by decide) (by decide) (by decide) (by decide) (by decide) (by decide) (by decide) (by decide) (by decide) (by decide) (by decide)).trans h_ma_stitchesAhead
  have h_ma_broken := (hn 16 (by decide) (by decide) (by decide) (by decide) (by decide) (by decide) (by decide) (by decide) (by decide) (by decide) (by decide) (by decide)).trans h_ma_broken
  have h_ma_brokeAt := (hn 17 (by decide) (by decide) (by decide) (by decide) (by decide) (by decide) (by decide) (by decide) (by decide) (by decide) (by decide) (by decide)).trans h_ma_brokeAt
  have h_ma_stitches := (hn 18 (by decide) (by decide) (by decide) (by decide) (by decide) (by decide) (by decide) (by decide) (by decide) (by decide) (by decide) (by decide)).trans h_ma_stitches
  have h_mo_colour := (hn 20 (by decide) (by decide) (by decide) (by decide) (by decide) (by decide) (by decide) (by decide) (by decide) (by decide) (by decide) (by decide)).trans h_mo_colour
  have h_mo_layer := (hn 21 (by decide) (by decide) (by decide) (by decide) (by decide) (by decide) (by decide) (by decide) (by decide) (by decide) (by decide) (by decide)).trans h_mo_layer
  have h_mo_isColumn := (hn 22 (by decide) (by decide) (by decide) (by decide) (by decide) (by decide) (by decide) (by decide) (by decide) (by decide) (by decide) (by decide)).trans h_mo_isColumn
  have h_mo_corners := (hn 23 (by decide) (by decide) (by decide) (by decide) (by decide) (by decide) (by decide) (by decide) (by decide) (by decide) (by decide) (by decide)).trans h_mo_corners
  have h_mo_cornerX := (hn 24 (by decide) (by decide) (by decide) (by decide) (by decide) (by decide) (by decide) (by decide) (by decide) (by decide) (by decide) (by decide)).trans h_mo_cornerX
  have h_mo_cornerY := (hn 25 (by decide) (by decide) (by decide) (by decide) (by decide) (by decide) (by decide) (by decide) (by decide) (by decide) (by decide) (by decide)).trans h_mo_cornerY
  have h_mo_density := (hn 26 (by decide) (by decide) (by decide) (by decide) (by decide) (by decide) (by decide) (by decide) (by decide) (by decide) (by decide) (by decide)).trans h_mo_density
  have h_mo_longest := (hn 27 (by decide) (by decide) (by decide) (by decide) (by decide) (by decide) (by decide) (by decide) (by decide) (by decide) (by decide) (by decide)).trans h_mo_longest
  have h_mo_shift := (hn 28 (by decide) (by decide) (by decide) (by decide) (by decide) (by decide) (by decide) (by decide) (by decide) (by decide) (by decide) (by decide)).trans h_mo_shift
  have h_mo_pull := (hn 29 (by decide) (by decide) (by decide) (by decide) (by decide) (by decide) (by decide) (by decide) (by decide) (by decide) (by decide) (by decide)).trans h_mo_pull
  have h_mo_hasUnderlay := (hn 30 (by decide) (by decide) (by decide) (by decide) (by decide) (by decide) (by decide) (by decide) (by decide) (by decide) (by decide) (by decide)).trans h_mo_hasUnderlay
  have h_FF := zFF_keep (fun i hi => hn i (by omega) (by omega) (by omega) (by omega) (by omega) (by omega) (by omega) (by omega) (by omega) (by omega) (by omega) (by omega)) h_FF
  have hbg : ∀ i : Nat, i < 46 → i ≠ 0 → i ≠ 2 → i ≠ 3 → i ≠ 4 → i ≠ 5 → i ≠ 6 → i ≠ 7 → i ≠ 8 → i ≠ 9 → i ≠ 14 → i ≠ 15 → i ≠ 16 → i ≠ 17 → i ≠ 18 → i ≠ 19 → i ≠ 31 → i ≠ 32 → i ≠ 33 → i ≠ 34 → i ≠ 35 → i ≠ 36 → i ≠ 37 → i ≠ 38 → i ≠ 41 → i ≠ 42 → i ≠ 43 → σ56 i = σ0 i := fun i h46 a0 a1 a2 a3 a4 a5 a6 a7 a8 a9 a10 a11 a12 a13 a14 a15 a16 a17 a18 a19 a20 a21 a22 a23 a24 a25 => (hn i a14 a15 a16 a17 a18 a19 a20 a21 a22 a23 a24 a25).trans (hbg i h46 a0 a1 a2 a3 a4 a5 a6 a7 a8 a9 a10 a11 a12 a13 a14 a15 a16 a17 a18 a19 a20 a21 a22 a23 a24 a25)
  refine lv_aload_n hx hb dL_law_1212 rfl (lv_at hl 3 rfl) ?_
  obtain ⟨r57, k58, hf⟩ := zb1_some hf
  refine zcVi (C := RX7) (As := []) (rest := []) hx hb hml hown hts hl.1 hK hH hA (c_X7_thrown hI hN  h_mo k58) zk_t5_0 zk_t5_1 zk_t5_2 zk_t1_6 zk_t5_3 hd_X7_thrown rfl ⟨rfl, rfl, Nat.le_of_ble_eq_true rfl, Nat.le_of_ble_eq_true rfl⟩ ⟨g_c, g_s⟩ hk_mo h_mo rfl rfl rfl (Nat.le_of_ble_eq_true rfl) dL_law_1213 (fun q60 σ59 Hσ59 lσ59 hp hH => ?_)
  obtain ⟨hr1, hs1⟩ := hp; replace hr1 := hr1.symm; subst hr1; rw [hs1] at hH
  refine lv_iload hx hb dL_law_1216 (lv_at hl 0 rfl) ?_
  obtain ⟨k61, hf⟩ := zck_some hf
  refine lz_icmp_eq (tgt := 1223) hx hb k61 dL_law_1218 (by decide) (fun c62 => ?_) (fun c62 => ?_)
  · replace hf := (if_pos c62).symm.trans hf
    refine lv_goto (tgt := 1430) hx hb dL_law_1223 (by decide) ?_
    cases hf
    exact kk _ _ _ _ _ (by omega) (by omega) hH h_sp h_sp_waiting h_pl h_pl_kinds h_pl_differencesX h_pl_differencesY h_pl_owners h_pl_kindCounts h_pl_threads h_ma h_ma_stitchesAhead h_ma_broken h_ma_brokeAt h_ma_stitches h_mo h_mo_pointX h_mo_pointY h_mo_crossing h_mo_kind h_mo_byX h_mo_byY h_mo_fieldOf h_mo_isSewn h_mo_kinds h_mo_brokenAt h_mo_sewn h_FF hbg _ (lv_sub hl [1, 2, 3, 4, 5, 6] rfl)
  · replace hf := (if_neg c62).symm.trans hf
    refine lv_iconst (v := zI 0) hx hb dL_law_1221 (by decide +kernel) ?_
    cases hf
def f_law_run (ma_stitchesAhead : Int → Int) (ma_broken : Int → Int) (ma_brokeAt : Int → Int) (ma_stitches : Int → Int) (ma_headCount : Int) (ma_late : Int) (ma_commandCount : Int) (ma_place : Int) (mo_heads : Int) (mo_late : Int) (mo_ran : Int) (mo_program : Int) (mo_kinds : Int → Int) (mo_brokenAt : Int → Int) (mo_sewn : Int → Int) (mo_thrown : Int) (lw_out : Int) (w1 : Int) : Option ((Int → Int) × Int × Int × (Int → Int) × Int × Int) :=
  zb4 (f_L_run ma_stitchesAhead ma_broken ma_brokeAt ma_stitches ma_headCount ma_late ma_commandCount ma_place w1 lw_out) fun r1 u2 u3 u4 =>
  zb4 (f_X7_run mo_heads mo_late mo_ran mo_program mo_kinds mo_brokenAt mo_sewn mo_thrown w1) fun r8 u9 a10 u11 =>
  zb1 (f_X7_thrown u11) fun r15 =>
  zck (zR r15 ∧ zR r1) <|
  if r15 = r1 then
    zck (zR r1) <|
    if r1 = 0 then
      zck (zR u4 ∧ zR r8) <|
      if u4 = r8 then
        some (u2, u3, u9, a10, u11, u4)
      else
        none
    else
      some (u2, u3, u9, a10, u11, u4)
  else
    none
set_option maxHeartbeats 4000000 in
set_option maxRecDepth 100000 in
theorem w_law_run {p : Program} {l : Launch} {e : Env} {s : State} {m : MethodId} {args : Array Value} {below : List Frame} {meth : Method} {c : Code} {Q : State → Prop} {D : va_G} {cI cZ cF cL cD : ClassId} {b L : Nat} {xs : Nat → Int32} {A : Nat → Prop} (hx : p.tables.exec = Jvm.exec) (hb : c.code = code) (hml : c.maxLocals = 10) (hown : s.vm.findClass RL = some m.cls) (hts : ∀ w ∈ wsL_law, w.before args s = true) (hst : l.stackTraces = false) (hNc : zNc s) (hX0 : va_X b L xs s s.heap) (hbl : b < s.heap.size) (hbA : ¬ A b) (hA : ∀ q, s.heap.size ≤ q → A q) (hK : zK D (zT cI cZ cF cL cD) s) (hXs : zXs A s s.heap) (hL : L ≤ 3584)
    {ad : Nat → Nat} {N : Nat} {nF : Int} (hN : 46 ≤ N) (hNF : N = 46 + 7 * nF.toNat) {σ0 : Nat → va_E} {H : Heap} {locs : List Loc} {cells slots : Nat} (hH : zH D ad N A s.heap σ0 H locs) {sp_fieldCount : Int} {sp_trimBound : Int} {sp_planned : Int} {ma_stitchesAhead : Int → Int} {ma_broken : Int → Int} {ma_brokeAt : Int → Int} {ma_stitches : Int → Int} {ma_headCount : Int} {ma_late : Int} {ma_commandCount : Int} {ma_place : Int} {mo_fields : Int} {mo_bound : Int} {mo_points : Int} {mo_crossings : Int} {mo_isKnown : Int} {mo_commands : Int} {mo_needleX : Int} {mo_needleY : Int} {mo_hasFile : Int} {mo_format : Int} {mo_length : Int} {mo_heads : Int} {mo_late : Int} {mo_ran : Int} {mo_program : Int} {mo_kinds : Int → Int} {mo_brokenAt : Int → Int} {mo_sewn : Int → Int} {mo_thrown : Int} {mo_rowY : Int} {mo_stitches : Int} {lw_out : Int} {R_ma_stitches : Int → Int} {R_ma_place : Int} {R_mo_ran : Int} {R_mo_sewn : Int → Int} {R_mo_thrown : Int} {R_lw_out : Int} (h_sp : σ0 0 = oC_sp ad sp_fieldCount sp_trimBound sp_planned) (h_ma : σ0 14 = oC_ma ad ma_headCount ma_late ma_commandCount ma_place) (h_ma_stitchesAhead : σ0 15 = .inl (cI, 16642, .inl (zA ma_stitchesAhead))) (h_ma_broken : σ0 16 = .inl (cZ, 4, .inl (zA ma_broken))) (h_ma_brokeAt : σ0 17 = .inl (cI, 4, .inl (zA ma_brokeAt))) (h_ma_stitches : σ0 18 = .inl (cI, 4, .inl (zA ma_stitches))) (h_mo : σ0 19 = oC_mo ad mo_fields mo_bound mo_points mo_crossings mo_isKnown mo_commands mo_needleX mo_needleY mo_hasFile mo_format mo_length mo_heads mo_late mo_ran mo_program mo_thrown mo_rowY mo_stitches) (h_mo_kinds : σ0 41 = .inl (cI, 20000, .inl (zA mo_kinds))) (h_mo_brokenAt : σ0 42 = .inl (cI, 4, .inl (zA mo_brokenAt))) (h_mo_sewn : σ0 43 = .inl (cI, 4, .inl (zA mo_sewn))) (h_lw_out : zO cL σ0 lw_out) {ii : Int} (hiL : 0 ≤ ii ∧ ii + 7 ≤ L) {w1 : Int} (hw1 : xs (ii.toNat + 1) = zI w1) (hR1 : zR w1) (hcs : cells + 9 ≤ 83562 ∧ slots + 4300 ≤ 8845420) {ls : Array Slot} (hl : lv_has ls 10 [(0, .ref b), (1, .ref (ad 0)), (2, .ref (ad 19)), (3, .ref (ad 44)), (4, .ref (ad 45)), (5, .int (zI ii))]) (hf : f_law_run ma_stitchesAhead ma_broken ma_brokeAt ma_stitches ma_headCount ma_late ma_commandCount ma_place mo_heads mo_late mo_ran mo_program mo_kinds mo_brokenAt mo_sewn mo_thrown lw_out w1 = some (R_ma_stitches, R_ma_place, R_mo_ran, R_mo_sewn, R_mo_thrown, R_lw_out))
    (kk : ∀ (σ : Nat → va_E) (H : Heap) (locs : List Loc) (cells1 slots1 : Nat), cells1 ≤ cells + 9 → slots1 ≤ slots + 4300 → zH D ad N A s.heap σ H locs → ∀ (h_ma : σ 14 = oC_ma ad ma_headCount ma_late ma_commandCount R_ma_place) (h_ma_stitches : σ 18 = .inl (cI, 4, .inl (zA R_ma_stitches))) (h_mo : σ 19 = oC_mo ad mo_fields mo_bound mo_points mo_crossings mo_isKnown mo_commands mo_needleX mo_needleY mo_hasFile mo_format mo_length mo_heads mo_late R_mo_ran mo_program R_mo_thrown mo_rowY mo_stitches) (h_mo_sewn : σ 43 = .inl (cI, 4, .inl (zA R_mo_sewn))) (h_lw_out : zO cL σ R_lw_out), ∀ (hbg : ∀ i : Nat, i ≠ 14 → i ≠ 18 → i ≠ 19 → i ≠ 43 → i ≠ 44 → σ i = σ0 i) (ls : Array Slot), lv_has ls 10 [(0, .ref b), (1, .ref (ad 0)), (2, .ref (ad 19)), (3, .ref (ad 44)), (4, .ref (ad 45)), (5, .int (zI ii))] → W p l e room_1 s m args below meth c H locs cells1 slots1 Q (F0 m 1430 ls [])) : W p l e room_1 s m args below meth c H locs cells slots Q (F0 m 1226 ls []) := by
  have hI := zD_inj hH.2.1
  have g_c : cells ≤ 83562 := by omega
  have g_s : slots ≤ 8845420 := by omega
  have hk_out : 44 < N := by omega
  have hk_outD : 45 < N := by omega
  have hk_sp : 0 < N := by omega
  have hk_ma : 14 < N := by omega
  have hk_ma_stitchesAhead : 15 < N := by omega
  have hk_ma_broken : 16 < N := by omega
  have hk_ma_brokeAt : 17 < N := by omega
  have hk_ma_stitches : 18 < N := by omega
  have hk_mo : 19 < N := by omega
  have hk_mo_kinds : 41 < N := by omega
  have hk_mo_brokenAt : 42 < N := by omega
  have hk_mo_sewn : 43 < N := by omega
  have hbg : ∀ i : Nat, i ≠ 14 → i ≠ 18 → i ≠ 19 → i ≠ 43 → i ≠ 44 → σ0 i = σ0 i := fun _ _ _ _ _ _ => rfl
  unfold f_law_run at hf
  refine lv_aload_n hx hb dL_law_1226 rfl (lv_at hl 1 rfl) ?_
  refine lv_aload_n hx hb dL_law_1227 rfl (lv_at hl 0 rfl) ?_
  refine lv_iload hx hb dL_law_1228 (lv_at hl 5 rfl) ?_
  refine lv_iconst (v := zI 1) hx hb dL_law_1230 (by decide +kernel) ?_
  refine lz_iadd hx hb dL_law_1231 ?_
  refine lz_sld hx hb hX0 hbl hbA hH.2.2 hiL hL 1 (by decide) hw1 dL_law_1232 ?_
  refine lv_aload_n hx hb dL_law_1233 rfl (lv_at hl 3 rfl) ?_
  obtain ⟨r1, u2, u3, u4, k5, hf⟩ := zb4_some hf
  refine zcH (As := [.ref (ad 0), .int (zI w1), .ref (ad 44)]) (rest := []) hx hb hml hown hts hl.1 hK hH hA (hXs.kept hH.2.2.2.1) hNc (c_L_run (zD_inj hH.2.1) hN hst h_sp h_ma h_ma_stitchesAhead h_ma_broken h_ma_brokeAt h_ma_stitches h_lw_out k5) zk_t4_38 zk_t4_39 zk_t1_0 zk_t4_40 hd_L_run rfl ⟨rfl, rfl, Nat.le_of_ble_eq_true rfl, Nat.le_of_ble_eq_true rfl⟩ ⟨by show _ ≤ 83562; omega, by show _ ≤ 8845420; omega⟩ rfl (Nat.le_of_ble_eq_true rfl) dL_law_1234 (fun q7 σ6 Hσ6 lσ6 hp hH => ?_)
  obtain ⟨hr1, h_ma, h_ma_stitches, h_lw_out, hn⟩ := hp
  subst hr1
  have h_sp := (hn 0 (by decide) (by decide) (by decide)).trans h_sp
  have h_ma_stitchesAhead := (hn 15 (by decide) (by decide) (by decide)).trans h_ma_stitchesAhead
  have h_ma_broken := (hn 16 (by decide) (by decide) (by decide)).trans h_ma_broken
  have h_ma_brokeAt := (hn 17 (by decide) (by decide) (by decide)).trans h_ma_brokeAt
  have h_mo := (hn 19 (by decide) (by decide) (by decide)).trans h_mo
  have h_mo_kinds := (hn 41 (by decide) (by decide) (by decide)).trans h_mo_kinds
  have h_mo_brokenAt := (hn 42 (by decide) (by decide) (by decide)).trans h_mo_brokenAt
  have h_mo_sewn := (hn 43 (by decide) (by decide) (by decide)).trans h_mo_sewn
  have hbg : ∀ i : Nat, i ≠ 14 → i ≠ 18 → i ≠ 19 → i ≠ 43 → i ≠ 44 → σ6 i = σ0 i := fun i a0 a1 a2 a3 a4 => (hn i a0 a1 a4).trans (hbg i a0 a1 a2 a3 a4)
  have g_c : cells + 1 ≤ 83562 := by omega
  have g_s : slots + 6 ≤ 8845420 := by omega
  refine lv_istore (lv' := [(6, .int (zI r1)), (0, .ref b), (1, .ref (ad 0)), (2, .ref (ad 19)), (3, .ref (ad 44)), (4, .ref (ad 45)), (5, .int (zI ii))]) hx hb dL_law_1237 hl (by decide) rfl (fun ls hl => ?_)
  refine lv_aload_n hx hb dL_law_1239 rfl (lv_at hl 3 rfl) ?_
  refine lv_aload_n hx hb dL_law_1240 rfl (lv_at hl 1 rfl) ?_
  refine lv_iload hx hb dL_law_1241 (lv_at hl 6 rfl) ?_
  refine lv_iconst (v := zI 1) hx hb dL_law_1243 (by decide +kernel) ?_
  refine lz_iadd hx hb dL_law_1244 ?_
  refine lz_sld hx hb hX0 hbl hbA hH.2.2 hiL hL 1 (by decide) hw1 dL_law_1245 ?_
  obtain ⟨r8, u9, a10, u11, k12, hf⟩ := zb4_some hf
  refine zcVi (C := RX7) (As := [.int (zI w1)]) (rest := []) hx hb hml hown hts hl.1 hK hH hA (c_X7_run hI hN  h_mo h_mo_kinds h_mo_brokenAt h_mo_sewn k12) zk_t5_201 zk_t5_202 zk_t5_203 zk_t1_6 zk_t5_204 hd_X7_run rfl ⟨rfl, rfl, Nat.le_of_ble_eq_true rfl, Nat.le_of_ble_eq_true rfl⟩ ⟨g_c, g_s⟩ hk_mo h_mo rfl rfl rfl (Nat.le_of_ble_eq_true rfl) dL_law_1246 (fun q14 σ13 Hσ13 lσ13 hp hH => ?_)
  obtain ⟨hr1, h_mo, h_mo_sewn, hn⟩ := hp
  replace hr1 := hr1.symm; subst hr1
  have h_sp := (hn 0 (by decide) (by decide)).trans h_sp
  have h_ma := (hn 14 (by decide) (by decide)).trans h_ma
  have h_ma_stitchesAhead := (hn 15 (by decide) (by decide)).trans h_ma_stitchesAhead
  have h_ma_broken := (hn 16 (by decide) (by decide)).trans h_ma_broken
  have h_ma_brokeAt := (hn 17 (by decide) (by decide)).trans h_ma_brokeAt
  have h_ma_stitches := (hn 18 (by decide) (by decide)).trans h_ma_stitches
  have h_mo_kinds := (hn 41 (by decide) (by decide)).trans h_mo_kinds
  have h_mo_brokenAt := (hn 42 (by decide) (by decide)).trans h_mo_brokenAt
  have hbg : ∀ i : Nat, i ≠ 14 → i ≠ 18 → i ≠ 19 → i ≠ 43 → i ≠ 44 → σ13 i = σ0 i := fun i a0 a1 a2 a3 a4 => (hn i a2 a3).trans (hbg i a0 a1 a2 a3 a4)
  have h_lw_out := zO_keep h_lw_out (hn 44 (by decide) (by decide))
  refine lv_istore (lv' := [(7, .int (zI r8)), (6, .int (zI r1)), (0, .ref b), (1, .ref (ad 0)), (2, .ref (ad 19)), (3, .ref (ad 44)), (4, .ref (ad 45)), (5, .int (zI ii))]) hx hb dL_law_1249 hl (by decide) rfl (fun ls hl => ?_)
  refine lv_aload_n hx hb dL_law_1251 rfl (lv_at hl 4 rfl) ?_
  obtain ⟨r15, k16, hf⟩ := zb1_some hf
  refine zcVi (C := RX7) (As := []) (rest := []) hx hb hml hown hts hl.1 hK hH hA (c_X7_thrown hI hN  h_mo k16) zk_t5_0 zk_t5_1 zk_t5_2 zk_t1_6 zk_t5_3 hd_X7_thrown rfl ⟨rfl, rfl, Nat.le_of_ble_eq_true rfl, Nat.le_of_ble_eq_true rfl⟩ ⟨g_c, g_s⟩ hk_mo h_mo rfl rfl rfl (Nat.le_of_ble_eq_true rfl) dL_law_1252 (fun q18 σ17 Hσ17 lσ17 hp hH => ?_)
  obtain ⟨hr1, hs1⟩ := hp; replace hr1 := hr1.symm; subst hr1; rw [hs1] at hH
  refine lv_iload hx hb dL_law_1255 (lv_at hl 1 rfl) ?_
  obtain ⟨k19, hf⟩ := zck_some hf
  refine lz_icmp_eq (tgt := 1262) hx hb k19 dL_law_1257 (by decide) (fun c20 => ?_) (fun c20 => ?_)
  · replace hf := (if_pos c20).symm.trans hf
    refine lv_iload hx hb dL_law_1262 (lv_at hl 1 rfl) ?_
    obtain ⟨k21, hf⟩ := zck_some hf
    refine lz_if_ne (tgt := 1279) hx hb k21 dL_law_1264 (by decide) (fun c22 => ?_) (fun c22 => ?_)
    · replace hf := (if_neg c22).symm.trans hf
      refine lv_goto (tgt := 1430) hx hb dL_law_1279 (by decide) ?_
      cases hf
      exact kk _ _ _ _ _ (by omega) (by omega) hH h_ma h_ma_stitches h_mo h_mo_sewn h_lw_out hbg _ (lv_sub hl [2, 3, 4, 5, 6, 7] rfl)
    · replace hf := (if_pos c22).symm.trans hf
      refine lv_aload_n hx hb dL_law_1267 rfl (lv_at hl 5 rfl) ?_
      refine lv_iconst (v := zI 0) hx hb dL_law_1268 (by decide +kernel) ?_
      refine zlald hx hb hK hH hk_out h_lw_out rfl dL_law_1269 ?_
      refine lv_iload hx hb dL_law_1270 (lv_at hl 0 rfl) ?_
      refine lv_i2l hx hb dL_law_1272 rfl ?_
      obtain ⟨k23, hf⟩ := zck_some hf
      refine lz_lcmpeq (tgt := 1279) hx hb k23 dL_law_1273 dL_law_1274 (by decide) (fun c24 => ?_) (fun c24 => ?_)
      · replace hf := (if_pos c24).symm.trans hf
        refine lv_goto (tgt := 1430) hx hb dL_law_1279 (by decide) ?_
        cases hf
        exact kk _ _ _ _ _ (by omega) (by omega) hH h_ma h_ma_stitches h_mo h_mo_sewn h_lw_out hbg _ (lv_sub hl [2, 3, 4, 5, 6, 7] rfl)
      · replace hf := (if_neg c24).symm.trans hf
        refine lv_iconst (v := zI 0) hx hb dL_law_1277 (by decide +kernel) ?_
        cases hf
  · replace hf := (if_neg c20).symm.trans hf
    refine lv_iconst (v := zI 0) hx hb dL_law_1260 (by decide +kernel) ?_
    cases hf
def f_law_breaks (ma_broken : Int → Int) (ma_brokeAt : Int → Int) (ma_headCount : Int) (ma_place : Int) (mo_heads : Int) (mo_ran : Int) (mo_brokenAt : Int → Int) (mo_thrown : Int) (w1 : Int) : Option ((Int → Int) × (Int → Int) × (Int → Int) × Int) :=
  zb3 (f_L_breaks ma_broken ma_brokeAt ma_headCount ma_place w1) fun r1 u2 u3 =>
  zb2 (f_X7_breaks mo_heads mo_ran mo_brokenAt mo_thrown w1) fun a7 u8 =>
  zb1 (f_X7_thrown u8) fun r11 =>
  zck (zR r11 ∧ zR r1) <|
  if r11 = r1 then
    some (u2, u3, a7, u8)
  else
    none
set_option maxHeartbeats 4000000 in
set_option maxRecDepth 100000 in
theorem w_law_breaks {p : Program} {l : Launch} {e : Env} {s : State} {m : MethodId} {args : Array Value} {below : List Frame} {meth : Method} {c : Code} {Q : State → Prop} {D : va_G} {cI cZ cF cL cD : ClassId} {b L : Nat} {xs : Nat → Int32} {A : Nat → Prop} (hx : p.tables.exec = Jvm.exec) (hb : c.code = code) (hml : c.maxLocals = 10) (hown : s.vm.findClass RL = some m.cls) (hts : ∀ w ∈ wsL_law, w.before args s = true) (hst : l.stackTraces = false) (hNc : zNc s) (hX0 : va_X b L xs s s.heap) (hbl : b < s.heap.size) (hbA : ¬ A b) (hA : ∀ q, s.heap.size ≤ q → A q) (hK : zK D (zT cI cZ cF cL cD) s) (hXs : zXs A s s.heap) (hL : L ≤ 3584)
    {ad : Nat → Nat} {N : Nat} {nF : Int} (hN : 46 ≤ N) (hNF : N = 46 + 7 * nF.toNat) {σ0 : Nat → va_E} {H : Heap} {locs : List Loc} {cells slots : Nat} (hH : zH D ad N A s.heap σ0 H locs) {sp_fieldCount : Int} {sp_trimBound : Int} {sp_planned : Int} {ma_broken : Int → Int} {ma_brokeAt : Int → Int} {ma_stitches : Int → Int} {ma_headCount : Int} {ma_late : Int} {ma_commandCount : Int} {ma_place : Int} {mo_fields : Int} {mo_bound : Int} {mo_points : Int} {mo_crossings : Int} {mo_isKnown : Int} {mo_commands : Int} {mo_needleX : Int} {mo_needleY : Int} {mo_hasFile : Int} {mo_format : Int} {mo_length : Int} {mo_heads : Int} {mo_late : Int} {mo_ran : Int} {mo_program : Int} {mo_brokenAt : Int → Int} {mo_thrown : Int} {mo_rowY : Int} {mo_stitches : Int} {R_ma_broken : Int → Int} {R_ma_brokeAt : Int → Int} {R_mo_brokenAt : Int → Int} {R_mo_thrown : Int} (h_sp : σ0 0 = oC_sp ad sp_fieldCount sp_trimBound sp_planned) (h_ma : σ0 14 = oC_ma ad ma_headCount ma_late ma_commandCount ma_place) (h_ma_broken : σ0 16 = .inl (cZ, 4, .inl (zA ma_broken))) (h_ma_brokeAt : σ0 17 = .inl (cI, 4, .inl (zA ma_brokeAt))) (h_ma_stitches : σ0 18 = .inl (cI, 4, .inl (zA ma_stitches))) (h_mo : σ0 19 = oC_mo ad mo_fields mo_bound mo_points mo_crossings mo_isKnown mo_commands mo_needleX mo_needleY mo_hasFile mo_format mo_length mo_heads mo_late mo_ran mo_program mo_thrown mo_rowY mo_stitches) (h_mo_brokenAt : σ0 42 = .inl (cI, 4, .inl (zA mo_brokenAt))) {ii : Int} (hiL : 0 ≤ ii ∧ ii + 7 ≤ L) {w1 : Int} (hw1 : xs (ii.toNat + 1) = zI w1) (hR1 : zR w1) (hcs : cells + 9 ≤ 83562 ∧ slots + 4300 ≤ 8845420) {ls : Array Slot} (hl : lv_has ls 10 [(0, .ref b), (1, .ref (ad 0)), (2, .ref (ad 19)), (3, .ref (ad 44)), (4, .ref (ad 45)), (5, .int (zI ii))]) (hf : f_law_breaks ma_broken ma_brokeAt ma_headCount ma_place mo_heads mo_ran mo_brokenAt mo_thrown w1 = some (R_ma_broken, R_ma_brokeAt, R_mo_brokenAt, R_mo_thrown))
    (kk : ∀ (σ : Nat → va_E) (H : Heap) (locs : List Loc) (cells1 slots1 : Nat), cells1 ≤ cells + 9 → slots1 ≤ slots + 4300 → zH D ad N A s.heap σ H locs → ∀ (h_ma_broken : σ 16 = .inl (cZ, 4, .inl (zA R_ma_broken))) (h_ma_brokeAt : σ 17 = .inl (cI, 4, .inl (zA R_ma_brokeAt))) (h_mo : σ 19 = oC_mo ad mo_fields mo_bound mo_points mo_crossings mo_isKnown mo_commands mo_needleX mo_needleY mo_hasFile mo_format mo_length mo_heads mo_late mo_ran mo_program R_mo_thrown mo_rowY mo_stitches) (h_mo_brokenAt : σ 42 = .inl (cI, 4, .inl (zA R_mo_brokenAt))), ∀ (hbg : ∀ i : Nat, i ≠ 16 → i ≠ 17 → i ≠ 19 → i ≠ 42 → σ i = σ0 i) (ls : Array Slot), lv_has ls 10 [(0, .ref b), (1, .ref (ad 0)), (2, .ref (ad 19)), (3, .ref (ad 44)), (4, .ref (ad 45)), (5, .int (zI ii))] → W p l e room_1 s m args below meth c H locs cells1 slots1 Q (F0 m 1430 ls [])) : W p l e room_1 s m args below meth c H locs cells slots Q (F0 m 1282 ls []) := by
  have hI := zD_inj hH.2.1
  have g_c : cells ≤ 83562 := by omega
  have g_s : slots ≤ 8845420 := by omega
  have hk_out : 44 < N := by omega
  have hk_outD : 45 < N := by omega
  have hk_sp : 0 < N := by omega
  have hk_ma : 14 < N := by omega
  have hk_ma_broken : 16 < N := by omega
  have hk_ma_brokeAt : 17 < N := by omega
  have hk_ma_stitches : 18 < N := by omega
  have hk_mo : 19 < N := by omega
  have hk_mo_brokenAt : 42 < N := by omega
  have hbg : ∀ i : Nat, i ≠ 16 → i ≠ 17 → i ≠ 19 → i ≠ 42 → σ0 i = σ0 i := fun _ _ _ _ _ => rfl
  unfold f_law_breaks at hf
  refine lv_aload_n hx hb dL_law_1282 rfl (lv_at hl 1 rfl) ?_
  refine lv_aload_n hx hb dL_law_1283 rfl (lv_at hl 0 rfl) ?_
  refine lv_iload hx hb dL_law_1284 (lv_at hl 5 rfl) ?_
  refine lv_iconst (v := zI 1) hx hb dL_law_1286 (by decide +kernel) ?_
  refine lz_iadd hx hb dL_law_1287 ?_
  refine lz_sld hx hb hX0 hbl hbA hH.2.2 hiL hL 1 (by decide) hw1 dL_law_1288 ?_
  obtain ⟨r1, u2, u3, k4, hf⟩ := zb3_some hf
  refine zcH (As := [.ref (ad 0), .int (zI w1)]) (rest := []) hx hb hml hown hts hl.1 hK hH hA (hXs.kept hH.2.2.2.1) hNc (c_L_breaks (zD_inj hH.2.1) hN hst h_sp h_ma h_ma_broken h_ma_brokeAt h_ma_stitches k4) zk_t4_71 zk_t4_72 zk_t1_0 zk_t4_73 hd_L_breaks rfl ⟨rfl, rfl, Nat.le_of_ble_eq_true rfl, Nat.le_of_ble_eq_true rfl⟩ ⟨by show _ ≤ 83562; omega, by show _ ≤ 8845420; omega⟩ rfl (Nat.le_of_ble_eq_true rfl) dL_law_1289 (fun q6 σ5 Hσ5 lσ5 hp hH => ?_)
  obtain ⟨hr1, h_ma_broken, h_ma_brokeAt, hn⟩ := hp
  subst hr1
  have h_sp := (hn 0 (by decide) (by decide)).trans h_sp
  have h_ma := (hn 14 (by decide) (by decide)).trans h_ma
  have h_ma_stitches := (hn 18 (by decide) (by decide)).trans h_ma_stitches
  have h_mo := (hn 19 (by decide) (by decide)).trans h_mo
  have h_mo_brokenAt := (hn 42 (by decide) (by decide)).trans h_mo_brokenAt
  have hbg : ∀ i : Nat, i ≠ 16 → i ≠ 17 → i ≠ 19 → i ≠ 42 → σ5 i = σ0 i := fun i a0 a1 a2 a3 => (hn i a0 a1).trans (hbg i a0 a1 a2 a3)
  have g_c : cells + 1 ≤ 83562 := by omega
  have g_s : slots + 6 ≤ 8845420 := by omega
  refine lv_istore (lv' := [(6, .int (zI r1)), (0, .ref b), (1, .ref (ad 0)), (2, .ref (ad 19)), (3, .ref (ad 44)), (4, .ref (ad 45)), (5, .int (zI ii))]) hx hb dL_law_1292 hl (by decide) rfl (fun ls hl => ?_)
  refine lv_aload_n hx hb dL_law_1294 rfl (lv_at hl 3 rfl) ?_
  refine lv_aload_n hx hb dL_law_1295 rfl (lv_at hl 1 rfl) ?_
  refine lv_iload hx hb dL_law_1296 (lv_at hl 6 rfl) ?_
  refine lv_iconst (v := zI 1) hx hb dL_law_1298 (by decide +kernel) ?_
  refine lz_iadd hx hb dL_law_1299 ?_
  refine lz_sld hx hb hX0 hbl hbA hH.2.2 hiL hL 1 (by decide) hw1 dL_law_1300 ?_
  obtain ⟨a7, u8, k9, hf⟩ := zb2_some hf
  refine zcVv (C := RX7) (As := [.int (zI w1)]) (rest := []) hx hb hml hown hts hl.1 hK hH hA (c_X7_breaks hI hN  h_mo h_mo_brokenAt k9) zk_t5_213 zk_t5_214 zk_t5_215 zk_t1_6 zk_t5_216 hd_X7_breaks rfl ⟨rfl, rfl, Nat.le_of_ble_eq_true rfl, Nat.le_of_ble_eq_true rfl⟩ ⟨g_c, g_s⟩ hk_mo h_mo rfl rfl rfl (Nat.le_of_ble_eq_true rfl) dL_law_1301 (fun σ10 Hσ10 lσ10 hp hH => ?_)
  obtain ⟨h_mo, h_mo_brokenAt, hn⟩ := hp
  have h_sp := (hn 0 (by decide) (by decide)).trans h_sp
  have h_ma := (hn 14 (by decide) (by decide)).trans h_ma
  have h_ma_broken := (hn 16 (by decide) (by decide)).trans h_ma_broken
  have h_ma_brokeAt := (hn 17 (by decide) (by decide)).trans h_ma_brokeAt
  have h_ma_stitches := (hn 18 (by decide) (by decide)).trans h_ma_stitches
  have hbg : ∀ i : Nat, i ≠ 16 → i ≠ 17 → i ≠ 19 → i ≠ 42 → σ10 i = σ0 i := fun i a0 a1 a2 a3 => (hn i a2 a3).trans (hbg i a0 a1 a2 a3)
  refine lv_aload_n hx hb dL_law_1304 rfl (lv_at hl 3 rfl) ?_
  obtain ⟨r11, k12, hf⟩ := zb1_some hf
  refine zcVi (C := RX7) (As := []) (rest := []) hx hb hml hown hts hl.1 hK hH hA (c_X7_thrown hI hN  h_mo k12) zk_t5_0 zk_t5_1 zk_t5_2 zk_t1_6 zk_t5_3 hd_X7_thrown rfl ⟨rfl, rfl, Nat.le_of_ble_eq_true rfl, Nat.le_of_ble_eq_true rfl⟩ ⟨g_c, g_s⟩ hk_mo h_mo rfl rfl rfl (Nat.le_of_ble_eq_true rfl) dL_law_1305 (fun q14 σ13 Hσ13 lσ13 hp hH => ?_)
  obtain ⟨hr1, hs1⟩ := hp; replace hr1 := hr1.symm; subst hr1; rw [hs1] at hH
  refine lv_iload hx hb dL_law_1308 (lv_at hl 0 rfl) ?_
  obtain ⟨k15, hf⟩ := zck_some hf
  refine lz_icmp_eq (tgt := 1315) hx hb k15 dL_law_1310 (by decide) (fun c16 => ?_) (fun c16 => ?_)
  · replace hf := (if_pos c16).symm.trans hf
    refine lv_goto (tgt := 1430) hx hb dL_law_1315 (by decide) ?_
    cases hf
    exact kk _ _ _ _ _ (by omega) (by omega) hH h_ma_broken h_ma_brokeAt h_mo h_mo_brokenAt hbg _ (lv_sub hl [1, 2, 3, 4, 5, 6] rfl)
  · replace hf := (if_neg c16).symm.trans hf
    refine lv_iconst (v := zI 0) hx hb dL_law_1313 (by decide +kernel) ?_
    cases hf
def f_law_mend (ma_stitchesAhead : Int → Int) (ma_broken : Int → Int) (ma_brokeAt : Int → Int) (ma_stitches : Int → Int) (ma_headCount : Int) (ma_late : Int) (ma_commandCount : Int) (ma_place : Int) (mo_heads : Int) (mo_late : Int) (mo_ran : Int) (mo_program : Int) (mo_kinds : Int → Int) (mo_brokenAt : Int → Int) (mo_sewn : Int → Int) (mo_thrown : Int) (lw_out : Int) (w1 : Int) : Option ((Int → Int) × (Int → Int) × (Int → Int) × (Int → Int) × Int × Int) :=
  zb4 (f_L_mend ma_stitchesAhead ma_broken ma_brokeAt ma_stitches ma_headCount ma_late ma_commandCount ma_place w1 lw_out) fun r1 u2 u3 u4 =>
  zb4 (f_X7_mend mo_heads mo_late mo_ran mo_program mo_kinds mo_brokenAt mo_sewn mo_thrown w1) fun r8 a9 a10 u11 =>
  zb1 (f_X7_thrown u11) fun r15 =>
  zck (zR r15 ∧ zR r1) <|
  if r15 = r1 then
    zck (zR r1) <|
    if r1 = 0 then
      zck (zR u4 ∧ zR r8) <|
      if u4 = r8 then
        some (u2, u3, a9, a10, u11, u4)
      else
        none
    else
      some (u2, u3, a9, a10, u11, u4)
  else
    none
set_option maxHeartbeats 4000000 in
set_option maxRecDepth 100000 in
theorem w_law_mend {p : Program} {l : Launch} {e : Env} {s : State} {m : MethodId} {args : Array Value} {below : List Frame} {meth : Method} {c : Code} {Q : State → Prop} {D : va_G} {cI cZ cF cL cD : ClassId} {b L : Nat} {xs : Nat → Int32} {A : Nat → Prop} (hx : p.tables.exec = Jvm.exec) (hb : c.code = code) (hml : c.maxLocals = 10) (hown : s.vm.findClass RL = some m.cls) (hts : ∀ w ∈ wsL_law, w.before args s = true) (hst : l.stackTraces = false) (hNc : zNc s) (hX0 : va_X b L xs s s.heap) (hbl : b < s.heap.size) (hbA : ¬ A b) (hA : ∀ q, s.heap.size ≤ q → A q) (hK : zK D (zT cI cZ cF cL cD) s) (hXs : zXs A s s.heap) (hL : L ≤ 3584)
    {ad : Nat → Nat} {N : Nat} {nF : Int} (hN : 46 ≤ N) (hNF : N = 46 + 7 * nF.toNat) {σ0 : Nat → va_E} {H : Heap} {locs : List Loc} {cells slots : Nat} (hH : zH D ad N A s.heap σ0 H locs) {sp_fieldCount : Int} {sp_trimBound : Int} {sp_planned : Int} {ma_stitchesAhead : Int → Int} {ma_broken : Int → Int} {ma_brokeAt : Int → Int} {ma_stitches : Int → Int} {ma_headCount : Int} {ma_late : Int} {ma_commandCount : Int} {ma_place : Int} {mo_fields : Int} {mo_bound : Int} {mo_points : Int} {mo_crossings : Int} {mo_isKnown : Int} {mo_commands : Int} {mo_needleX : Int} {mo_needleY : Int} {mo_hasFile : Int} {mo_format : Int} {mo_length : Int} {mo_heads : Int} {mo_late : Int} {mo_ran : Int} {mo_program : Int} {mo_kinds : Int → Int} {mo_brokenAt : Int → Int} {mo_sewn : Int → Int} {mo_thrown : Int} {mo_rowY : Int} {mo_stitches : Int} {lw_out : Int} {R_ma_broken : Int → Int} {R_ma_stitches : Int → Int} {R_mo_brokenAt : Int → Int} {R_mo_sewn : Int → Int} {R_mo_thrown : Int} {R_lw_out : Int} (h_sp : σ0 0 = oC_sp ad sp_fieldCount sp_trimBound sp_planned) (h_ma : σ0 14 = oC_ma ad ma_headCount ma_late ma_commandCount ma_place) (h_ma_stitchesAhead : σ0 15 = .inl (cI, 16642, .inl (zA ma_stitchesAhead))) (h_ma_broken : σ0 16 = .inl (cZ, 4, .inl (zA ma_broken))) (h_ma_brokeAt : σ0 17 = .inl (cI, 4, .inl (zA ma_brokeAt))) (h_ma_stitches : σ0 18 = .inl (cI, 4, .inl (zA ma_stitches))) (h_mo : σ0 19 = oC_mo ad mo_fields mo_bound mo_points mo_crossings mo_isKnown mo_commands mo_needleX mo_needleY mo_hasFile mo_format mo_length mo_heads mo_late mo_ran mo_program mo_thrown mo_rowY mo_stitches) (h_mo_kinds : σ0 41 = .inl (cI, 20000, .inl (zA mo_kinds))) (h_mo_brokenAt : σ0 42 = .inl (cI, 4, .inl (zA mo_brokenAt))) (h_mo_sewn : σ0 43 = .inl (cI, 4, .inl (zA mo_sewn))) (h_lw_out : zO cL σ0 lw_out) {ii : Int} (hiL : 0 ≤ ii ∧ ii + 7 ≤ L) {w1 : Int} (hw1 : xs (ii.toNat + 1) = zI w1) (hR1 : zR w1) (hcs : cells + 9 ≤ 83562 ∧ slots + 4300 ≤ 8845420) {ls : Array Slot} (hl : lv_has ls 10 [(0, .ref b), (1, .ref (ad 0)), (2, .ref (ad 19)), (3, .ref (ad 44)), (4, .ref (ad 45)), (5, .int (zI ii))]) (hf : f_law_mend ma_stitchesAhead ma_broken ma_brokeAt ma_stitches ma_headCount ma_late ma_commandCount ma_place mo_heads mo_late mo_ran mo_program mo_kinds mo_brokenAt mo_sewn mo_thrown lw_out w1 = some (R_ma_broken, R_ma_stitches, R_mo_brokenAt, R_mo_sewn, R_mo_thrown, R_lw_out))
    (kk : ∀ (σ : Nat → va_E) (H : Heap) (locs : List Loc) (cells1 slots1 : Nat), cells1 ≤ cells + 9 → slots1 ≤ slots + 4300 → zH D ad N A s.heap σ H locs → ∀ (h_ma_broken : σ 16 = .inl (cZ, 4, .inl (zA R_ma_broken))) (h_ma_stitches : σ 18 = .inl (cI, 4, .inl (zA R_ma_stitches))) (h_mo : σ 19 = oC_mo ad mo_fields mo_bound mo_points mo_crossings mo_isKnown mo_commands mo_needleX mo_needleY mo_hasFile mo_format mo_length mo_heads mo_late mo_ran mo_program R_mo_thrown mo_rowY mo_stitches) (h_mo_brokenAt : σ 42 = .inl (cI, 4, .inl (zA R_mo_brokenAt))) (h_mo_sewn : σ 43 = .inl (cI, 4, .inl (zA R_mo_sewn))) (h_lw_out : zO cL σ R_lw_out), ∀ (hbg : ∀ i : Nat, i ≠ 16 → i ≠ 18 → i ≠ 19 → i ≠ 42 → i ≠ 43 → i ≠ 44 → σ i = σ0 i) (ls : Array Slot), lv_has ls 10 [(0, .ref b), (1, .ref (ad 0)), (2, .ref (ad 19)), (3, .ref (ad 44)), (4, .ref (ad 45)), (5, .int (zI ii))] → W p l e room_1 s m args below meth c H locs cells1 slots1 Q (F0 m 1430 ls [])) : W p l e room_1 s m args below meth c H locs cells slots Q (F0 m 1318 ls []) := by
  have hI := zD_inj hH.2.1
  have g_c : cells ≤ 83562 := by omega
  have g_s : slots ≤ 8845420 := by omega
  have hk_out : 44 < N := by omega
  have hk_outD : 45 < N := by omega
  have hk_sp : 0 < N := by omega
  have hk_ma : 14 < N := by omega
  have hk_ma_stitchesAhead : 15 < N := by omega
  have hk_ma_broken : 16 < N := by omega
  have hk_ma_brokeAt : 17 < N := by omega
  have hk_ma_stitches : 18 < N := by omega
  have hk_mo : 19 < N := by omega
  have hk_mo_kinds : 41 < N := by omega
  have hk_mo_brokenAt : 42 < N := by omega
  have hk_mo_sewn : 43 < N := by omega
  have hbg : ∀ i : Nat, i ≠ 16 → i ≠ 18 → i ≠ 19 → i ≠ 42 → i ≠ 43 → i ≠ 44 → σ0 i = σ0 i := fun _ _ _ _ _ _ _ => rfl
  unfold f_law_mend at hf
  refine lv_aload_n hx hb dL_law_1318 rfl (lv_at hl 1 rfl) ?_
  refine lv_aload_n hx hb dL_law_1319 rfl (lv_at hl 0 rfl) ?_
  refine lv_iload hx hb dL_law_1320 (lv_at hl 5 rfl) ?_
  refine lv_iconst (v := zI 1) hx hb dL_law_1322 (by decide +kernel) ?_
  refine lz_iadd hx hb dL_law_1323 ?_
  refine lz_sld hx hb hX0 hbl hbA hH.2.2 hiL hL 1 (by decide) hw1 dL_law_1324 ?_
  refine lv_aload_n hx hb dL_law_1325 rfl (lv_at hl 3 rfl) ?_
  obtain ⟨r1, u2, u3, u4, k5, hf⟩ := zb4_some hf
  refine zcH (As := [.ref (ad 0), .int (zI w1), .ref (ad 44)]) (rest := []) hx hb hml hown hts hl.1 hK hH hA (hXs.kept hH.2.2.2.1) hNc (c_L_mend (zD_inj hH.2.1) hN hst h_sp h_ma h_ma_stitchesAhead h_ma_broken h_ma_brokeAt h_ma_stitches h_lw_out k5) zk_t4_85 zk_t4_86 zk_t1_0 zk_t4_87 hd_L_mend rfl ⟨rfl, rfl, Nat.le_of_ble_eq_true rfl, Nat.le_of_ble_eq_true rfl⟩ ⟨by show _ ≤ 83562; omega, by show _ ≤ 8845420; omega⟩ rfl (Nat.le_of_ble_eq_true rfl) dL_law_1326 (fun q7 σ6 Hσ6 lσ6 hp hH => ?_)
  obtain ⟨hr1, h_ma_broken, h_ma_stitches, h_lw_out, hn⟩ := hp
  subst hr1
  have h_sp := (hn 0 (by decide) (by decide) (by decide)).trans h_sp
  have h_ma := (hn 14 (by decide) (by decide) (by decide)).trans h_ma
  have h_ma_stitchesAhead := (hn 15 (by decide) (by decide) (by decide)).trans h_ma_stitchesAhead
  have h_ma_brokeAt := (hn 17 (by decide) (by decide) (by decide)).trans h_ma_brokeAt
  have h_mo := (hn 19 (by decide) (by decide) (by decide)).trans h_mo
  have h_mo_kinds := (hn 41 (by decide) (by decide) (by decide)).trans h_mo_kinds
  have h_mo_brokenAt := (hn 42 (by decide) (by decide) (by decide)).trans h_mo_brokenAt
  have h_mo_sewn := (hn 43 (by decide) (by decide) (by decide)).trans h_mo_sewn
  have hbg : ∀ i : Nat, i ≠ 16 → i ≠ 18 → i ≠ 19 → i ≠ 42 → i ≠ 43 → i ≠ 44 → σ6 i = σ0 i := fun i a0 a1 a2 a3 a4 a5 => (hn i a0 a1 a5).trans (hbg i a0 a1 a2 a3 a4 a5)
  have g_c : cells + 1 ≤ 83562 := by omega
  have g_s : slots + 6 ≤ 8845420 := by omega
  refine lv_istore (lv' := [(6, .int (zI r1)), (0, .ref b), (1, .ref (ad 0)), (2, .ref (ad 19)), (3, .ref (ad 44)), (4, .ref (ad 45)), (5, .int (zI ii))]) hx hb dL_law_1329 hl (by decide) rfl (fun ls hl => ?_)
  refine lv_aload_n hx hb dL_law_1331 rfl (lv_at hl 3 rfl) ?_
  refine lv_aload_n hx hb dL_law_1332 rfl (lv_at hl 1 rfl) ?_
  refine lv_iload hx hb dL_law_1333 (lv_at hl 6 rfl) ?_
  refine lv_iconst (v := zI 1) hx hb dL_law_1335 (by decide +kernel) ?_
  refine lz_iadd hx hb dL_law_1336 ?_
  refine lz_sld hx hb hX0 hbl hbA hH.2.2 hiL hL 1 (by decide) hw1 dL_law_1337 ?_
  obtain ⟨r8, a9, a10, u11, k12, hf⟩ := zb4_some hf
  refine zcVi (C := RX7) (As := [.int (zI w1)]) (rest := []) hx hb hml hown hts hl.1 hK hH hA (c_X7_mend hI hN  h_mo h_mo_kinds h_mo_brokenAt h_mo_sewn k12) zk_t5_221 zk_t5_222 zk_t5_223 zk_t1_6 zk_t5_224 hd_X7_mend rfl ⟨rfl, rfl, Nat.le_of_ble_eq_true rfl, Nat.le_of_ble_eq_true rfl⟩ ⟨g_c, g_s⟩ hk_mo h_mo rfl rfl rfl (Nat.le_of_ble_eq_true rfl) dL_law_1338 (fun q14 σ13 Hσ13 lσ13 hp hH => ?_)
  obtain ⟨hr1, h_mo, h_mo_brokenAt, h_mo_sewn, hn⟩ := hp
  replace hr1 := hr1.symm; subst hr1
  have h_sp := (hn 0 (by decide) (by decide) (by decide)).trans h_sp
  have h_ma := (hn 14 (by decide) (by decide) (by decide)).trans h_ma
  have h_ma_stitchesAhead := (hn 15 (by decide) (by decide) (by decide)).trans h_ma_stitchesAhead
  have h_ma_broken := (hn 16 (by decide) (by decide) (by decide)).trans h_ma_broken
  have h_ma_brokeAt := (hn 17 (by decide) (by decide) (by decide)).trans h_ma_brokeAt
  have h_ma_stitches := (hn 18 (by decide) (by decide) (by decide)).trans h_ma_stitches
  have h_mo_kinds := (hn 41 (by decide) (by decide) (by decide)).trans h_mo_kinds
  have hbg : ∀ i : Nat, i ≠ 16 → i ≠ 18 → i ≠ 19 → i ≠ 42 → i ≠ 43 → i ≠ 44 → σ13 i = σ0 i := fun i a0 a1 a2 a3 a4 a5 => (hn i a2 a3 a4).trans (hbg i a0 a1 a2 a3 a4 a5)
  have h_lw_out := zO_keep h_lw_out (hn 44 (by decide) (by decide) (by decide))
  refine lv_istore (lv' := [(7, .int (zI r8)), (6, .int (zI r1)), (0, .ref b), (1, .ref (ad 0)), (2, .ref (ad 19)), (3, .ref (ad 44)), (4, .ref (ad 45)), (5, .int (zI ii))]) hx hb dL_law_1341 hl (by decide) rfl (fun ls hl => ?_)
  refine lv_aload_n hx hb dL_law_1343 rfl (lv_at hl 4 rfl) ?_
  obtain ⟨r15, k16, hf⟩ := zb1_some hf
  refine zcVi (C := RX7) (As := []) (rest := []) hx hb hml hown hts hl.1 hK hH hA (c_X7_thrown hI hN  h_mo k16) zk_t5_0 zk_t5_1 zk_t5_2 zk_t1_6 zk_t5_3 hd_X7_thrown rfl ⟨rfl, rfl, Nat.le_of_ble_eq_true rfl, Nat.le_of_ble_eq_true rfl⟩ ⟨g_c, g_s⟩ hk_mo h_mo rfl rfl rfl (Nat.le_of_ble_eq_true rfl) dL_law_1344 (fun q18 σ17 Hσ17 lσ17 hp hH => ?_)
  obtain ⟨hr1, hs1⟩ := hp; replace hr1 := hr1.symm; subst hr1; rw [hs1] at hH
  refine lv_iload hx hb dL_law_1347 (lv_at hl 1 rfl) ?_
  obtain ⟨k19, hf⟩ := zck_some hf
  refine lz_icmp_eq (tgt := 1354) hx hb k19 dL_law_1349 (by decide) (fun c20 => ?_) (fun c20 => ?_)
  · replace hf := (if_pos c20).symm.trans hf
    refine lv_iload hx hb dL_law_1354 (lv_at hl 1 rfl) ?_
    obtain ⟨k21, hf⟩ := zck_some hf
    refine lz_if_ne (tgt := 1371) hx hb k21 dL_law_1356 (by decide) (fun c22 => ?_) (fun c22 => ?_)
    · replace hf := (if_neg c22).symm.trans hf
      refine lv_goto (tgt := 1430) hx hb dL_law_1371 (by decide) ?_
      cases hf
      exact kk _ _ _ _ _ (by omega) (by omega) hH h_ma_broken h_ma_stitches h_mo h_mo_brokenAt h_mo_sewn h_lw_out hbg _ (lv_sub hl [2, 3, 4, 5, 6, 7] rfl)
    · replace hf := (if_pos c22).symm.trans hf
      refine lv_aload_n hx hb dL_law_1359 rfl (lv_at hl 5 rfl) ?_
      refine lv_iconst (v := zI 0) hx hb dL_law_1360 (by decide +kernel) ?_
      refine zlald hx hb hK hH hk_out h_lw_out rfl dL_law_1361 ?_
      refine lv_iload hx hb dL_law_1362 (lv_at hl 0 rfl) ?_
      refine lv_i2l hx hb dL_law_1364 rfl ?_
      obtain ⟨k23, hf⟩ := zck_some hf
      refine lz_lcmpeq (tgt := 1371) hx hb k23 dL_law_1365 dL_law_1366 (by decide) (fun c24 => ?_) (fun c24 => ?_)
      · replace hf := (if_pos c24).symm.trans hf
        refine lv_goto (tgt := 1430) hx hb dL_law_1371 (by decide) ?_
        cases hf
        exact kk _ _ _ _ _ (by omega) (by omega) hH h_ma_broken h_ma_stitches h_mo h_mo_brokenAt h_mo_sewn h_lw_out hbg _ (lv_sub hl [2, 3, 4, 5, 6, 7] rfl)
      · replace hf := (if_neg c24).symm.trans hf
        refine lv_iconst (v := zI 0) hx hb dL_law_1369 (by decide +kernel) ?_
        cases hf
  · replace hf := (if_neg c20).symm.trans hf
    refine lv_iconst (v := zI 0) hx hb dL_law_1352 (by decide +kernel) ?_
    cases hf
def f_law_sewn (ma_stitches : Int → Int) (ma_headCount : Int) (mo_heads : Int) (mo_sewn : Int → Int) (mo_thrown : Int) (lw_out : Int) (w1 : Int) : Option (Int × Int) :=
  zb2 (f_L_sewn ma_stitches ma_headCount w1 lw_out) fun r1 u2 =>
  zb2 (f_X7_sewn mo_heads mo_sewn mo_thrown w1) fun r6 u7 =>
  zb1 (f_X7_thrown u7) fun r11 =>
  zck (zR r11 ∧ zR r1) <|
  if r11 = r1 then
    zck (zR r1) <|
    if r1 = 0 then
      zck (zR u2 ∧ zR r6) <|
      if u2 = r6 then
        some (u7, u2)
      else
        none
    else
      some (u7, u2)
  else
    none
set_option maxHeartbeats 4000000 in
set_option maxRecDepth 100000 in
theorem w_law_sewn {p : Program} {l : Launch} {e : Env} {s : State} {m : MethodId} {args : Array Value} {below : List Frame} {meth : Method} {c : Code} {Q : State → Prop} {D : va_G} {cI cZ cF cL cD : ClassId} {b L : Nat} {xs : Nat → Int32} {A : Nat → Prop} (hx : p.tables.exec = Jvm.exec) (hb : c.code = code) (hml : c.maxLocals = 10) (hown : s.vm.findClass RL = some m.cls) (hts : ∀ w ∈ wsL_law, w.before args s = true) (hst : l.stackTraces = false) (hNc : zNc s) (hX0 : va_X b L xs s s.heap) (hbl : b < s.heap.size) (hbA : ¬ A b) (hA : ∀ q, s.heap.size ≤ q → A q) (hK : zK D (zT cI cZ cF cL cD) s) (hXs : zXs A s s.heap) (hL : L ≤ 3584)
    {ad : Nat → Nat} {N : Nat} {nF : Int} (hN : 46 ≤ N) (hNF : N = 46 + 7 * nF.toNat) {σ0 : Nat → va_E} {H : Heap} {locs : List Loc} {cells slots : Nat} (hH : zH D ad N A s.heap σ0 H locs) {sp_fieldCount : Int} {sp_trimBound : Int} {sp_planned : Int} {ma_broken : Int → Int} {ma_brokeAt : Int → Int} {ma_stitches : Int → Int} {ma_headCount : Int} {ma_late : Int} {ma_commandCount : Int} {ma_place : Int} {mo_fields : Int} {mo_bound : Int} {mo_points : Int} {mo_crossings : Int} {mo_isKnown : Int} {mo_commands : Int} {mo_needleX : Int} {mo_needleY : Int} {mo_hasFile : Int} {mo_format : Int} {mo_length : Int} {mo_heads : Int} {mo_late : Int} {mo_ran : Int} {mo_program : Int} {mo_sewn : Int → Int} {mo_thrown : Int} {mo_rowY : Int} {mo_stitches : Int} {lw_out : Int} {R_mo_thrown : Int} {R_lw_out : Int} (h_sp : σ0 0 = oC_sp ad sp_fieldCount sp_trimBound sp_planned) (h_ma : σ0 14 = oC_ma ad ma_headCount ma_late ma_commandCount ma_place) (h_ma_broken : σ0 16 = .inl (cZ, 4, .inl (zA ma_broken))) (h_ma_brokeAt : σ0 17 = .inl (cI, 4, .inl (zA ma_brokeAt))) (h_ma_stitches : σ0 18 = .inl (cI, 4, .inl (zA ma_stitches))) (h_mo : σ0 19 = oC_mo ad mo_fields mo_bound mo_points mo_crossings mo_isKnown mo_commands mo_needleX mo_needleY mo_hasFile mo_format mo_length mo_heads mo_late mo_ran mo_program mo_thrown mo_rowY mo_stitches) (h_mo_sewn : σ0 43 = .inl (cI, 4, .inl (zA mo_sewn))) (h_lw_out : zO cL σ0 lw_out) {ii : Int} (hiL : 0 ≤ ii ∧ ii + 7 ≤ L) {w1 : Int} (hw1 : xs (ii.toNat + 1) = zI w1) (hR1 : zR w1) (hcs : cells + 9 ≤ 83562 ∧ slots + 4300 ≤ 8845420) {ls : Array Slot} (hl : lv_has ls 10 [(0, .ref b), (1, .ref (ad 0)), (2, .ref (ad 19)), (3, .ref (ad 44)), (4, .ref (ad 45)), (5, .int (zI ii))]) (hf : f_law_sewn ma_stitches ma_headCount mo_heads mo_sewn mo_thrown lw_out w1 = some (R_mo_thrown, R_lw_out))
    (kk : ∀ (σ : Nat → va_E) (H : Heap) (locs : List Loc) (cells1 slots1 : Nat), cells1 ≤ cells + 9 → slots1 ≤ slots + 4300 → zH D ad N A s.heap σ H locs → ∀ (h_mo : σ 19 = oC_mo ad mo_fields mo_bound mo_points mo_crossings mo_isKnown mo_commands mo_needleX mo_needleY mo_hasFile mo_format mo_length mo_heads mo_late mo_ran mo_program R_mo_thrown mo_rowY mo_stitches) (h_lw_out : zO cL σ R_lw_out), ∀ (hbg : ∀ i : Nat, i ≠ 19 → i ≠ 44 → σ i = σ0 i) (ls : Array Slot), lv_has ls 10 [(0, .ref b), (1, .ref (ad 0)), (2, .ref (ad 19)), (3, .ref (ad 44)), (4, .ref (ad 45)), (5, .int (zI ii))] → W p l e room_1 s m args below meth c H locs cells1 slots1 Q (F0 m 1430 ls [])) : W p l e room_1 s m args below meth c H locs cells slots Q (F0 m 1374 ls []) := by
  have hI := zD_inj hH.2.1
  have g_c : cells ≤ 83562 := by omega
  have g_s : slots ≤ 8845420 := by omega
  have hk_out : 44 < N := by omega
  have hk_outD : 45 < N := by omega
  have hk_sp : 0 < N := by omega
  have hk_ma : 14 < N := by omega
  have hk_ma_broken : 16 < N := by omega
  have hk_ma_brokeAt : 17 < N := by omega
  have hk_ma_stitches : 18 < N := by omega
  have hk_mo : 19 < N := by omega
  have hk_mo_sewn : 43 < N := by omega
  have hbg : ∀ i : Nat, i ≠ 19 → i ≠ 44 → σ0 i = σ0 i := fun _ _ _ => rfl
  unfold f_law_sewn at hf
  refine lv_aload_n hx hb dL_law_1374 rfl (lv_at hl 1 rfl) ?_
  refine lv_aload_n hx hb dL_law_1375 rfl (lv_at hl 0 rfl) ?_
  refine lv_iload hx hb dL_law_1376 (lv_at hl 5 rfl) ?_
  refine lv_iconst (v := zI 1) hx hb dL_law_1378 (by decide +kernel) ?_
  refine lz_iadd hx hb dL_law_1379 ?_
  refine lz_sld hx hb hX0 hbl hbA hH.2.2 hiL hL 1 (by decide) hw1 dL_law_1380 ?_
  refine lv_aload_n hx hb dL_law_1381 rfl (lv_at hl 3 rfl) ?_
  obtain ⟨r1, u2, k3, hf⟩ := zb2_some hf
  refine zcH (As := [.ref (ad 0), .int (zI w1), .ref (ad 44)]) (rest := []) hx hb hml hown hts hl.1 hK hH hA (hXs.kept hH.2.2.2.1) hNc (c_L_sewn (zD_inj hH.2.1) hN hst h_sp h_ma h_ma_broken h_ma_brokeAt h_ma_stitches h_lw_out k3) zk_t4_99 zk_t4_100 zk_t1_0 zk_t4_101 hd_L_sewn rfl ⟨rfl, rfl, Nat.le_of_ble_eq_true rfl, Nat.le_of_ble_eq_true rfl⟩ ⟨by show _ ≤ 83562; omega, by show _ ≤ 8845420; omega⟩ rfl (Nat.le_of_ble_eq_true rfl) dL_law_1382 (fun q5 σ4 Hσ4 lσ4 hp hH => ?_)
  obtain ⟨hr1, h_lw_out, hn⟩ := hp
  subst hr1
  have h_sp := (hn 0 (by decide)).trans h_sp
  have h_ma := (hn 14 (by decide)).trans h_ma
  have h_ma_broken := (hn 16 (by decide)).trans h_ma_broken
  have h_ma_brokeAt := (hn 17 (by decide)).trans h_ma_brokeAt
  have h_ma_stitches := (hn 18 (by decide)).trans h_ma_stitches
  have h_mo := (hn 19 (by decide)).trans h_mo
  have h_mo_sewn := (hn 43 (by decide)).trans h_mo_sewn
  have hbg : ∀ i : Nat, i ≠ 19 → i ≠ 44 → σ4 i = σ0 i := fun i a0 a1 => (hn i a1).trans (hbg i a0 a1)
  have g_c : cells + 1 ≤ 83562 := by omega
  have g_s : slots + 6 ≤ 8845420 := by omega
  refine lv_istore (lv' := [(6, .int (zI r1)), (0, .ref b), (1, .ref (ad 0)), (2, .ref (ad 19)), (3, .ref (ad 44)), (4, .ref (ad 45)), (5, .int (zI ii))]) hx hb dL_law_1385 hl (by decide) rfl (fun ls hl => ?_)
  refine lv_aload_n hx hb dL_law_1387 rfl (lv_at hl 3 rfl) ?_
  refine lv_aload_n hx hb dL_law_1388 rfl (lv_at hl 1 rfl) ?_
  refine lv_iload hx hb dL_law_1389 (lv_at hl 6 rfl) ?_
  refine lv_iconst (v := zI 1) hx hb dL_law_1391 (by decide +kernel) ?_
  refine lz_iadd hx hb dL_law_1392 ?_
  refine lz_sld hx hb hX0 hbl hbA hH.2.2 hiL hL 1 (by decide) hw1 dL_law_1393 ?_
  obtain ⟨r6, u7, k8, hf⟩ := zb2_some hf
  refine zcVi (C := RX7) (As := [.int (zI w1)]) (rest := []) hx hb hml hown hts hl.1 hK hH hA (c_X7_sewn hI hN  h_mo h_mo_sewn k8) zk_t5_225 zk_t5_226 zk_t5_227 zk_t1_6 zk_t5_228 hd_X7_sewn rfl ⟨rfl, rfl, Nat.le_of_ble_eq_true rfl, Nat.le_of_ble_eq_true rfl⟩ ⟨g_c, g_s⟩ hk_mo h_mo rfl rfl rfl (Nat.le_of_ble_eq_true rfl) dL_law_1394 (fun q10 σ9 Hσ9 lσ9 hp hH => ?_)
  obtain ⟨hr1, h_mo, hn⟩ := hp
  replace hr1 := hr1.symm; subst hr1
  have h_sp := (hn 0 (by decide)).trans h_sp
  have h_ma := (hn 14 (by decide)).trans h_ma
  have h_ma_broken := (hn 16 (by decide)).trans h_ma_broken
  have h_ma_brokeAt := (hn 17 (by decide)).trans h_ma_brokeAt
  have h_ma_stitches := (hn 18 (by decide)).trans h_ma_stitches
  have h_mo_sewn := (hn 43 (by decide)).trans h_mo_sewn
  have hbg : ∀ i : Nat, i ≠ 19 → i ≠ 44 → σ9 i = σ0 i := fun i a0 a1 => (hn i a0).trans (hbg i a0 a1)
  have h_lw_out := zO_keep h_lw_out (hn 44 (by decide))
  refine lv_istore (lv' := [(7, .int (zI r6)), (6, .int (zI r1)), (0, .ref b), (1, .ref (ad 0)), (2, .ref (ad 19)), (3, .ref (ad 44)), (4, .ref (ad 45)), (5, .int (zI ii))]) hx hb dL_law_1397 hl (by decide) rfl (fun ls hl => ?_)
  refine lv_aload_n hx hb dL_law_1399 rfl (lv_at hl 4 rfl) ?_
  obtain ⟨r11, k12, hf⟩ := zb1_some hf
  refine zcVi (C := RX7) (As := []) (rest := []) hx hb hml hown hts hl.1 hK hH hA (c_X7_thrown hI hN  h_mo k12) zk_t5_0 zk_t5_1 zk_t5_2 zk_t1_6 zk_t5_3 hd_X7_thrown rfl ⟨rfl, rfl, Nat.le_of_ble_eq_true rfl, Nat.le_of_ble_eq_true rfl⟩ ⟨g_c, g_s⟩ hk_mo h_mo rfl rfl rfl (Nat.le_of_ble_eq_true rfl) dL_law_1400 (fun q14 σ13 Hσ13 lσ13 hp hH => ?_)
  obtain ⟨hr1, hs1⟩ := hp; replace hr1 := hr1.symm; subst hr1; rw [hs1] at hH
  refine lv_iload hx hb dL_law_1403 (lv_at hl 1 rfl) ?_
  obtain ⟨k15, hf⟩ := zck_some hf
  refine lz_icmp_eq (tgt := 1410) hx hb k15 dL_law_1405 (by decide) (fun c16 => ?_) (fun c16 => ?_)
  · replace hf := (if_pos c16).symm.trans hf
    refine lv_iload hx hb dL_law_1410 (lv_at hl 1 rfl) ?_
    obtain ⟨k17, hf⟩ := zck_some hf
    refine lz_if_ne (tgt := 1427) hx hb k17 dL_law_1412 (by decide) (fun c18 => ?_) (fun c18 => ?_)
    · replace hf := (if_neg c18).symm.trans hf
      refine lv_goto (tgt := 1430) hx hb dL_law_1427 (by decide) ?_
      cases hf
      exact kk _ _ _ _ _ (by omega) (by omega) hH h_mo h_lw_out hbg _ (lv_sub hl [2, 3, 4, 5, 6, 7] rfl)
    · replace hf := (if_pos c18).symm.trans hf
      refine lv_aload_n hx hb dL_law_1415 rfl (lv_at hl 5 rfl) ?_
      refine lv_iconst (v := zI 0) hx hb dL_law_1416 (by decide +kernel) ?_
      refine zlald hx hb hK hH hk_out h_lw_out rfl dL_law_1417 ?_
      refine lv_iload hx hb dL_law_1418 (lv_at hl 0 rfl) ?_
      refine lv_i2l hx hb dL_law_1420 rfl ?_
      obtain ⟨k19, hf⟩ := zck_some hf
      refine lz_lcmpeq (tgt := 1427) hx hb k19 dL_law_1421 dL_law_1422 (by decide) (fun c20 => ?_) (fun c20 => ?_)
      · replace hf := (if_pos c20).symm.trans hf
        refine lv_goto (tgt := 1430) hx hb dL_law_1427 (by decide) ?_
        cases hf
        exact kk _ _ _ _ _ (by omega) (by omega) hH h_mo h_lw_out hbg _ (lv_sub hl [2, 3, 4, 5, 6, 7] rfl)
      · replace hf := (if_neg c20).symm.trans hf
        refine lv_iconst (v := zI 0) hx hb dL_law_1425 (by decide +kernel) ?_
        cases hf
  · replace hf := (if_neg c16).symm.trans hf
    refine lv_iconst (v := zI 0) hx hb dL_law_1408 (by decide +kernel) ?_
    cases hf
