abbrev rmL_fields : Room := { frames := 11, cells := 14, slots := 8396, locals := 264 }
theorem hd_L_fields : yL_fields.cls ≠ "java/lang/invoke/MethodHandle" ∧ yL_fields.cls ≠ "java/lang/invoke/VarHandle" ∧ (parseMethodDescriptor yL_fields.desc).map (fun d => d.parameters.length) = some 5 := by decide +kernel
set_option maxHeartbeats 4000000 in
set_option maxRecDepth 100000 in
theorem c_L_fields {l : Launch} (hst : l.stackTraces = false) {D : va_G} {cI cZ cF cL cD : ClassId} {q1 q2 qd sz : Nat} {E1 E2 : Nat → Prop} {S1 : yS} {S2 : yS} {dv : Int → Int} {p3 : Int} {p4 : Int} {R0 : Int} {R_S1 : yS} {R_S2 : yS} {R_dv : Int → Int} (hf : f_L_fields S1 S2 dv p3 p4 = some (R0, R_S1, R_S2, R_dv)) :
    Met l yL_fields (Cond.code yL_fields cL_fields 9 (some .boolean) :: wsL_law) rmL_fields (yPc D (zT cI cZ cF cL cD) sz (yA E1 E2 qd sz) (yW D cI cZ cF q1 E1 S1 q2 E2 S2 qd dv) [.ref q1, .ref q2, .ref qd, .int (zI p3), .int (zI p4)]) (yQLi D cI cZ cF q1 E1 q2 E2 qd sz (fun r => r = zI R0) R_S1 R_S2 R_dv) 14 8396 (yA E1 E2 qd sz) := by
  refine yMet0 (by decide) (Nat.le_of_ble_eq_true rfl) ?_
  intro p e s m args below meth c Q hx hb hr hlocks hml hown hts hK hX hNc hsz hQ hW9 hS9 ls hl
  subst hsz
  have hG := yG_in hW9 hS9
  have hl : lv_has ls 9 [(0, .ref q1), (1, .ref q2), (2, .ref qd), (3, .int (zI p3)), (4, .int (zI p4))] := hl
  have J452 : ∀ (S1 : yS) (S2 : yS) (dv : Int → Int) (F1 F2 : Nat → Prop) (H : Heap) (locs : List Loc) (hG : yG D cI cZ cF q1 F1 S1 q2 F2 S2 qd dv E1 E2 s.heap H locs) (ls : Array Slot) (hl : lv_has ls 9 []), f_L_fields_452 S1 S2 dv = some (R0, R_S1, R_S2, R_dv) → W p l e rmL_fields s m args below meth c H locs 14 8396 Q (F0 m 452 ls []) := by
    intro S1 S2 dv F1 F2 H locs hG ls hl hf
    unfold f_L_fields_452 at hf
    refine lv_iconst (v := zI 1) hx hb dL_fields_452 (by decide +kernel) ?_
    refine lv_goto (tgt := 457) hx hb dL_fields_453 (by decide) ?_
    cases hf
    exact yretz hx hb hr hlocks hQ hG rfl ⟨Nat.le_of_ble_eq_true rfl, Nat.le_of_ble_eq_true rfl⟩ (z_nar _ (Or.inr rfl)) dL_fields_457
  have J292 : ∀ (S1 : yS) (S2 : yS) (dv : Int → Int) (x4 : Int) (x6 : Int) (s0 : Int) (F1 F2 : Nat → Prop) (H : Heap) (locs : List Loc) (hG : yG D cI cZ cF q1 F1 S1 q2 F2 S2 qd dv E1 E2 s.heap H locs) (ls : Array Slot) (hl : lv_has ls 9 [(0, .ref q1), (1, .ref q2), (4, .int (zI x4)), (6, .int (zI x6))]), f_L_fields_292 S1 S2 dv x4 x6 s0 = some (R0, R_S1, R_S2, R_dv) → W p l e rmL_fields s m args below meth c H locs 0 0 Q (F0 m 292 ls [.int (zI s0)]) := by
    intro S1 S2 dv x4 x6 s0 F1 F2 H locs hG ls hl hf
    unfold f_L_fields_292 at hf
    refine lv_istore (lv' := [(7, .int (zI s0)), (0, .ref q1), (1, .ref q2), (4, .int (zI x4)), (6, .int (zI x6))]) hx hb dL_fields_292 hl (by decide) rfl (fun ls hl => ?_)
    refine lv_aload_n hx hb dL_fields_294 rfl (lv_at hl 1 rfl) ?_
    refine lv_iload hx hb dL_fields_295 (lv_at hl 4 rfl) ?_
    refine lv_iconst (v := zI 1) hx hb dL_fields_297 (by decide +kernel) ?_
    refine lv_iload hx hb dL_fields_298 (lv_at hl 3 rfl) ?_
    refine lv_iconst (v := zI 3) hx hb dL_fields_300 (by decide +kernel) ?_
    refine lz_ysr hx hb dL_fields_301 ?_
    refine lv_bipush (v := zI 8) hx hb dL_fields_302 (by decide +kernel) ?_
    obtain ⟨r1, k2, hf⟩ := zb1_some hf
    refine ycSi (As := [.int (zI (ysr x4 3)), .int (zI 8)]) (rest := [.int (zI 1), .int (zI x6), .ref q1]) (rm := rmL_some) (mc1 := 0) (ms1 := 0) (Bp := fun _ => True) (U := Unit) (post := fun (r : Int32) (_ : Unit) => r = zI r1) (Bq := fun _ _ => True) hx hb hml hown hts hl.1 hK (hX.kept hG.2.2.2.2.1) hNc trivial (yG_f0 hG) hG.2.2.2 (c_L_some k2) zk_t1_182 zk_t1_183 zk_t1_0 zk_t1_184 hd_L_some rfl ⟨rfl, rfl, Nat.le_of_ble_eq_true rfl, Nat.le_of_ble_eq_true rfl⟩ ⟨Nat.le_of_ble_eq_true rfl, Nat.le_of_ble_eq_true rfl⟩ rfl (Nat.le_of_ble_eq_true rfl) dL_fields_304 (fun r u H locs hp _ hz hk9 hS => ?_)
    have hG := yG_0 hG hz hk9 hS
    subst hp
    refine lz_iadd hx hb dL_fields_307 ?_
    refine lv_iconst (v := zI 2) hx hb dL_fields_308 (by decide +kernel) ?_
    refine lv_iload hx hb dL_fields_309 (lv_at hl 3 rfl) ?_
    refine lv_bipush (v := zI 6) hx hb dL_fields_311 (by decide +kernel) ?_
    refine lz_ysr hx hb dL_fields_313 ?_
    refine lv_bipush (v := zI 11) hx hb dL_fields_314 (by decide +kernel) ?_
    obtain ⟨r3, k4, hf⟩ := zb1_some hf
    refine ycSi (As := [.int (zI (ysr x4 6)), .int (zI 11)]) (rest := [.int (zI 2), .int (zI (1 + r1)), .int (zI x6), .ref q1]) (rm := rmL_some) (mc1 := 0) (ms1 := 0) (Bp := fun _ => True) (U := Unit) (post := fun (r : Int32) (_ : Unit) => r = zI r3) (Bq := fun _ _ => True) hx hb hml hown hts hl.1 hK (hX.kept hG.2.2.2.2.1) hNc trivial (yG_f0 hG) hG.2.2.2 (c_L_some k4) zk_t1_182 zk_t1_183 zk_t1_0 zk_t1_184 hd_L_some rfl ⟨rfl, rfl, Nat.le_of_ble_eq_true rfl, Nat.le_of_ble_eq_true rfl⟩ ⟨Nat.le_of_ble_eq_true rfl, Nat.le_of_ble_eq_true rfl⟩ rfl (Nat.le_of_ble_eq_true rfl) dL_fields_316 (fun r u H locs hp _ hz hk9 hS => ?_)
    have hG := yG_0 hG hz hk9 hS
    subst hp
    refine lz_iadd hx hb dL_fields_319 ?_
    refine lv_iload hx hb dL_fields_320 (lv_at hl 3 rfl) ?_
    refine lv_bipush (v := zI 8) hx hb dL_fields_322 (by decide +kernel) ?_
    refine lz_ysr hx hb dL_fields_324 ?_
    refine lv_bipush (v := zI 12) hx hb dL_fields_325 (by decide +kernel) ?_
    obtain ⟨r5, k6, hf⟩ := zb1_some hf
    refine ycSi (As := [.int (zI (ysr x4 8)), .int (zI 12)]) (rest := [.int (zI (2 + r3)), .int (zI (1 + r1)), .int (zI x6), .ref q1]) (rm := rmL_some) (mc1 := 0) (ms1 := 0) (Bp := fun _ => True) (U := Unit) (post := fun (r : Int32) (_ : Unit) => r = zI r5) (Bq := fun _ _ => True) hx hb hml hown hts hl.1 hK (hX.kept hG.2.2.2.2.1) hNc trivial (yG_f0 hG) hG.2.2.2 (c_L_some k6) zk_t1_182 zk_t1_183 zk_t1_0 zk_t1_184 hd_L_some rfl ⟨rfl, rfl, Nat.le_of_ble_eq_true rfl, Nat.le_of_ble_eq_true rfl⟩ ⟨Nat.le_of_ble_eq_true rfl, Nat.le_of_ble_eq_true rfl⟩ rfl (Nat.le_of_ble_eq_true rfl) dL_fields_327 (fun r u H locs hp _ hz hk9 hS => ?_)
    have hG := yG_0 hG hz hk9 hS
    subst hp
    refine lv_iload hx hb dL_fields_330 (lv_at hl 3 rfl) ?_
    refine lv_bipush (v := zI 10) hx hb dL_fields_332 (by decide +kernel) ?_
    refine lz_ysr hx hb dL_fields_334 ?_
    refine lv_iconst (v := zI 4) hx hb dL_fields_335 (by decide +kernel) ?_
    obtain ⟨r7, k8, hf⟩ := zb1_some hf
    refine ycSi (As := [.int (zI (ysr x4 10)), .int (zI 4)]) (rest := [.int (zI r5), .int (zI (2 + r3)), .int (zI (1 + r1)), .int (zI x6), .ref q1]) (rm := rmL_some) (mc1 := 0) (ms1 := 0) (Bp := fun _ => True) (U := Unit) (post := fun (r : Int32) (_ : Unit) => r = zI r7) (Bq := fun _ _ => True) hx hb hml hown hts hl.1 hK (hX.kept hG.2.2.2.2.1) hNc trivial (yG_f0 hG) hG.2.2.2 (c_L_some k8) zk_t1_182 zk_t1_183 zk_t1_0 zk_t1_184 hd_L_some rfl ⟨rfl, rfl, Nat.le_of_ble_eq_true rfl, Nat.le_of_ble_eq_true rfl⟩ ⟨Nat.le_of_ble_eq_true rfl, Nat.le_of_ble_eq_true rfl⟩ rfl (Nat.le_of_ble_eq_true rfl) dL_fields_336 (fun r u H locs hp _ hz hk9 hS => ?_)
    have hG := yG_0 hG hz hk9 hS
    subst hp
    refine lv_iload hx hb dL_fields_339 (lv_at hl 0 rfl) ?_
    obtain ⟨r9, s10, k11, hf⟩ := zb2_some hf
    refine ycSiW (As := [.ref q1, .int (zI x6), .int (zI (1 + r1)), .int (zI (2 + r3)), .int (zI r5), .int (zI r7), .int (zI s0)]) (rest := []) hx hb hml hown hts hl.1 hK (hX.kept hG.2.2.2.2.1) hNc hG.1 (yG_fw hG) hG.2.2.2 (c_L_sew hst k11) zk_t4_64 zk_t4_65 zk_t1_0 zk_t4_66 hd_L_sew rfl ⟨rfl, rfl, Nat.le_of_ble_eq_true rfl, Nat.le_of_ble_eq_true rfl⟩ ⟨Nat.le_of_ble_eq_true rfl, Nat.le_of_ble_eq_true rfl⟩ rfl (Nat.le_of_ble_eq_true rfl) dL_fields_341 (fun r u H locs hp hW9 hz hk9 hS => ?_)
    have hG := yG_w hG hW9 hp.2 hz hS
    have hr9 := hp.1
    subst hr9
    refine lv_istore (lv' := [(8, .int (zI r9)), (7, .int (zI s0)), (0, .ref q1), (1, .ref q2), (4, .int (zI x4)), (6, .int (zI x6))]) hx hb dL_fields_344 hl (by decide) rfl (fun ls hl => ?_)
    refine lv_iload hx hb dL_fields_346 (lv_at hl 0 rfl) ?_
    obtain ⟨k12, hf⟩ := zck_some hf
    refine lz_if_ne (tgt := 408) hx hb k12 dL_fields_348 (by decide) (fun c13 => ?_) (fun c13 => ?_)
    · replace hf := (if_neg c13).symm.trans hf
      refine lv_iconst (v := zI 0) hx hb dL_fields_408 (by decide +kernel) ?_
      cases hf
      exact yretz hx hb hr hlocks hQ hG rfl ⟨Nat.le_of_ble_eq_true rfl, Nat.le_of_ble_eq_true rfl⟩ (z_nar _ (Or.inl rfl)) dL_fields_409
    · replace hf := (if_pos c13).symm.trans hf
      refine lv_aload_n hx hb dL_fields_351 rfl (lv_at hl 3 rfl) ?_
      refine lv_iload hx hb dL_fields_352 (lv_at hl 5 rfl) ?_
      refine lv_iconst (v := zI 1) hx hb dL_fields_354 (by decide +kernel) ?_
      refine lv_iload hx hb dL_fields_355 (lv_at hl 4 rfl) ?_
      refine lv_iconst (v := zI 3) hx hb dL_fields_357 (by decide +kernel) ?_
      refine lz_ysr hx hb dL_fields_358 ?_
      refine lv_bipush (v := zI 8) hx hb dL_fields_359 (by decide +kernel) ?_
      obtain ⟨r14, k15, hf⟩ := zb1_some hf
      refine ycSi (As := [.int (zI (ysr x4 3)), .int (zI 8)]) (rest := [.int (zI 1), .int (zI x6), .ref q2]) (rm := rmL_some) (mc1 := 0) (ms1 := 0) (Bp := fun _ => True) (U := Unit) (post := fun (r : Int32) (_ : Unit) => r = zI r14) (Bq := fun _ _ => True) hx hb hml hown hts hl.1 hK (hX.kept hG.2.2.2.2.1) hNc trivial (yG_f0 hG) hG.2.2.2 (c_L_some k15) zk_t1_182 zk_t1_183 zk_t1_0 zk_t1_184 hd_L_some rfl ⟨rfl, rfl, Nat.le_of_ble_eq_true rfl, Nat.le_of_ble_eq_true rfl⟩ ⟨Nat.le_of_ble_eq_true rfl, Nat.le_of_ble_eq_true rfl⟩ rfl (Nat.le_of_ble_eq_true rfl) dL_fields_361 (fun r u H locs hp _ hz hk9 hS => ?_)
      have hG := yG_0 hG hz hk9 hS
      subst hp
      refine lz_iadd hx hb dL_fields_364 ?_
      refine lv_iconst (v := zI 2) hx hb dL_fields_365 (by decide +kernel) ?_
      refine lv_iload hx hb dL_fields_366 (lv_at hl 4 rfl) ?_
      refine lv_bipush (v := zI 6) hx hb dL_fields_368 (by decide +kernel) ?_
      refine lz_ysr hx hb dL_fields_370 ?_
      refine lv_bipush (v := zI 11) hx hb dL_fields_371 (by decide +kernel) ?_
      obtain ⟨r16, k17, hf⟩ := zb1_some hf
      refine ycSi (As := [.int (zI (ysr x4 6)), .int (zI 11)]) (rest := [.int (zI 2), .int (zI (1 + r14)), .int (zI x6), .ref q2]) (rm := rmL_some) (mc1 := 0) (ms1 := 0) (Bp := fun _ => True) (U := Unit) (post := fun (r : Int32) (_ : Unit) => r = zI r16) (Bq := fun _ _ => True) hx hb hml hown hts hl.1 hK (hX.kept hG.2.2.2.2.1) hNc trivial (yG_f0 hG) hG.2.2.2 (c_L_some k17) zk_t1_182 zk_t1_183 zk_t1_0 zk_t1_184 hd_L_some rfl ⟨rfl, rfl, Nat.le_of_ble_eq_true rfl, Nat.le_of_ble_eq_true rfl⟩ ⟨Nat.le_of_ble_eq_true rfl, Nat.le_of_ble_eq_true rfl⟩ rfl (Nat.le_of_ble_eq_true rfl) dL_fields_373 (fun r u H locs hp _ hz hk9 hS => ?_)
      have hG := yG_0 hG hz hk9 hS
      subst hp
      refine lz_iadd hx hb dL_fields_376 ?_
      refine lv_iload hx hb dL_fields_377 (lv_at hl 4 rfl) ?_
      refine lv_bipush (v := zI 8) hx hb dL_fields_379 (by decide +kernel) ?_
      refine lz_ysr hx hb dL_fields_381 ?_
      refine lv_bipush (v := zI 12) hx hb dL_fields_382 (by decide +kernel) ?_
      obtain ⟨r18, k19, hf⟩ := zb1_some hf
      refine ycSi (As := [.int (zI (ysr x4 8)), .int (zI 12)]) (rest := [.int (zI (2 + r16)), .int (zI (1 + r14)), .int (zI x6), .ref q2]) (rm := rmL_some) (mc1 := 0) (ms1 := 0) (Bp := fun _ => True) (U := Unit) (post := fun (r : Int32) (_ : Unit) => r = zI r18) (Bq := fun _ _ => True) hx hb hml hown hts hl.1 hK (hX.kept hG.2.2.2.2.1) hNc trivial (yG_f0 hG) hG.2.2.2 (c_L_some k19) zk_t1_182 zk_t1_183 zk_t1_0 zk_t1_184 hd_L_some rfl ⟨rfl, rfl, Nat.le_of_ble_eq_true rfl, Nat.le_of_ble_eq_true rfl⟩ ⟨Nat.le_of_ble_eq_true rfl, Nat.le_of_ble_eq_true rfl⟩ rfl (Nat.le_of_ble_eq_true rfl) dL_fields_384 (fun r u H locs hp _ hz hk9 hS => ?_)
      have hG := yG_0 hG hz hk9 hS
      subst hp
      refine lv_iload hx hb dL_fields_387 (lv_at hl 4 rfl) ?_
      refine lv_bipush (v := zI 10) hx hb dL_fields_389 (by decide +kernel) ?_
      refine lz_ysr hx hb dL_fields_391 ?_
      refine lv_iconst (v := zI 4) hx hb dL_fields_392 (by decide +kernel) ?_
      obtain ⟨r20, k21, hf⟩ := zb1_some hf
      refine ycSi (As := [.int (zI (ysr x4 10)), .int (zI 4)]) (rest := [.int (zI r18), .int (zI (2 + r16)), .int (zI (1 + r14)), .int (zI x6), .ref q2]) (rm := rmL_some) (mc1 := 0) (ms1 := 0) (Bp := fun _ => True) (U := Unit) (post := fun (r : Int32) (_ : Unit) => r = zI r20) (Bq := fun _ _ => True) hx hb hml hown hts hl.1 hK (hX.kept hG.2.2.2.2.1) hNc trivial (yG_f0 hG) hG.2.2.2 (c_L_some k21) zk_t1_182 zk_t1_183 zk_t1_0 zk_t1_184 hd_L_some rfl ⟨rfl, rfl, Nat.le_of_ble_eq_true rfl, Nat.le_of_ble_eq_true rfl⟩ ⟨Nat.le_of_ble_eq_true rfl, Nat.le_of_ble_eq_true rfl⟩ rfl (Nat.le_of_ble_eq_true rfl) dL_fields_393 (fun r u H locs hp _ hz hk9 hS => ?_)
      have hG := yG_0 hG hz hk9 hS
      subst hp
      refine lv_iload hx hb dL_fields_396 (lv_at hl 1 rfl) ?_
      obtain ⟨r22, s23, k24, hf⟩ := zb2_some hf
      refine ycSiW (As := [.ref q2, .int (zI x6), .int (zI (1 + r14)), .int (zI (2 + r16)), .int (zI r18), .int (zI r20), .int (zI s0)]) (rest := []) hx hb hml hown hts hl.1 hK (hX.kept hG.2.2.2.2.1) hNc hG.1.swap (yG_fs hG) hG.2.2.2 (c_L_sew hst k24) zk_t4_64 zk_t4_65 zk_t1_0 zk_t4_66 hd_L_sew rfl ⟨rfl, rfl, Nat.le_of_ble_eq_true rfl, Nat.le_of_ble_eq_true rfl⟩ ⟨Nat.le_of_ble_eq_true rfl, Nat.le_of_ble_eq_true rfl⟩ rfl (Nat.le_of_ble_eq_true rfl) dL_fields_398 (fun r u H locs hp hW9 hz hk9 hS => ?_)
      have hG := yG_s hG hW9 hp.2 hz hS
      have hr9 := hp.1
      subst hr9
      obtain ⟨k25, hf⟩ := zck_some hf
      refine lz_if_ne (tgt := 408) hx hb k25 dL_fields_401 (by decide) (fun c26 => ?_) (fun c26 => ?_)
      · replace hf := (if_neg c26).symm.trans hf
        refine lv_iconst (v := zI 0) hx hb dL_fields_408 (by decide +kernel) ?_
        cases hf
        exact yretz hx hb hr hlocks hQ hG rfl ⟨Nat.le_of_ble_eq_true rfl, Nat.le_of_ble_eq_true rfl⟩ (z_nar _ (Or.inl rfl)) dL_fields_409
      · replace hf := (if_pos c26).symm.trans hf
        refine lv_iconst (v := zI 1) hx hb dL_fields_404 (by decide +kernel) ?_
        refine lv_goto (tgt := 409) hx hb dL_fields_405 (by decide) ?_
        cases hf
        exact yretz hx hb hr hlocks hQ hG rfl ⟨Nat.le_of_ble_eq_true rfl, Nat.le_of_ble_eq_true rfl⟩ (z_nar _ (Or.inr rfl)) dL_fields_409
  have J239 : ∀ (S1 : yS) (S2 : yS) (dv : Int → Int) (s0 : Int) (s1 : Int) (F1 F2 : Nat → Prop) (H : Heap) (locs : List Loc) (hG : yG D cI cZ cF q1 F1 S1 q2 F2 S2 qd dv E1 E2 s.heap H locs) (ls : Array Slot) (hl : lv_has ls 9 []), f_L_fields_239 S1 S2 dv s0 s1 = some (R0, R_S1, R_S2, R_dv) → W p l e rmL_fields s m args below meth c H locs 14 8396 Q (F0 m 239 ls [.int (zI s1), .int (zI s0)]) := by
    intro S1 S2 dv s0 s1 F1 F2 H locs hG ls hl hf
    unfold f_L_fields_239 at hf
    obtain ⟨k27, hf⟩ := zck_some hf
    refine lz_icmp_ne (tgt := 246) hx hb k27 dL_fields_239 (by decide) (fun c28 => ?_) (fun c28 => ?_)
    · replace hf := (if_neg c28).symm.trans hf
      refine lv_iconst (v := zI 0) hx hb dL_fields_246 (by decide +kernel) ?_
      refine lv_goto (tgt := 267) hx hb dL_fields_247 (by decide) ?_
      cases hf
      exact yretz hx hb hr hlocks hQ hG rfl ⟨Nat.le_of_ble_eq_true rfl, Nat.le_of_ble_eq_true rfl⟩ (z_nar _ (Or.inl rfl)) dL_fields_267
    · replace hf := (if_pos c28).symm.trans hf
      refine lv_iconst (v := zI 1) hx hb dL_fields_242 (by decide +kernel) ?_
      refine lv_goto (tgt := 267) hx hb dL_fields_243 (by decide) ?_
      cases hf
      exact yretz hx hb hr hlocks hQ hG rfl ⟨Nat.le_of_ble_eq_true rfl, Nat.le_of_ble_eq_true rfl⟩ (z_nar _ (Or.inr rfl)) dL_fields_267
  have J206 : ∀ (S1 : yS) (S2 : yS) (dv : Int → Int) (x6 : Int) (x7 : Int) (s1 : Int) (s2 : Int) (s3 : Int) (F1 F2 : Nat → Prop) (H : Heap) (locs : List Loc) (hG : yG D cI cZ cF q1 F1 S1 q2 F2 S2 qd dv E1 E2 s.heap H locs) (ls : Array Slot) (hl : lv_has ls 9 [(2, .ref qd), (6, .int (zI x6)), (7, .int (zI x7))]), f_L_fields_206 S1 S2 dv x6 x7 s1 s2 s3 = some (R0, R_S1, R_S2, R_dv) → W p l e rmL_fields s m args below meth c H locs 14 8396 Q (F0 m 206 ls [.int (zI s3), .int (zI s2), .int (zI s1), .ref qd]) := by
    intro S1 S2 dv x6 x7 s1 s2 s3 F1 F2 H locs hG ls hl hf
    unfold f_L_fields_206 at hf
    refine lz_iadd hx hb dL_fields_206 ?_
    obtain ⟨k29, hf⟩ := zck_some hf
    obtain ⟨a30, ea30, hf⟩ := zlt_some hf
    refine ygst hx hb hK hG k29 dL_fields_207 (fun H locs hG => ?_)
    rw [← ea30] at hG
    refine lv_iload hx hb dL_fields_208 (lv_at hl 2 rfl) ?_
    refine lv_ldc (v := zI (-2000000003)) hx hb hown (hts _ (show Cond.constant RL 23 (zI (-2000000003)) ∈ wsL_law from zk_t4_62)) dL_fields_210 ?_
    obtain ⟨k31, hf⟩ := zck_some hf
    refine lz_icmp_ne (tgt := 250) hx hb ⟨k31, by decide⟩ dL_fields_212 (by decide) (fun c32 => ?_) (fun c32 => ?_)
    · replace hf := (if_neg c32).symm.trans hf
      refine lv_iload hx hb dL_fields_250 (lv_at hl 2 rfl) ?_
      refine lv_aload_n hx hb dL_fields_252 rfl (lv_at hl 0 rfl) ?_
      refine lv_bipush (v := zI 6) hx hb dL_fields_253 (by decide +kernel) ?_
      refine lv_iload hx hb dL_fields_255 (lv_at hl 1 rfl) ?_
      refine lz_iadd hx hb dL_fields_257 ?_
      obtain ⟨k33, hf⟩ := zck_some hf
      refine ygld hx hb hK hG k33 dL_fields_258 ?_
      obtain ⟨k34, hf⟩ := zck_some hf
      refine lz_icmp_ne (tgt := 266) hx hb k34 dL_fields_259 (by decide) (fun c35 => ?_) (fun c35 => ?_)
      · replace hf := (if_neg c35).symm.trans hf
        refine lv_iconst (v := zI 0) hx hb dL_fields_266 (by decide +kernel) ?_
        cases hf
        exact yretz hx hb hr hlocks hQ hG rfl ⟨Nat.le_of_ble_eq_true rfl, Nat.le_of_ble_eq_true rfl⟩ (z_nar _ (Or.inl rfl)) dL_fields_267
      · replace hf := (if_pos c35).symm.trans hf
        refine lv_iconst (v := zI 1) hx hb dL_fields_262 (by decide +kernel) ?_
        refine lv_goto (tgt := 267) hx hb dL_fields_263 (by decide) ?_
        cases hf
        exact yretz hx hb hr hlocks hQ hG rfl ⟨Nat.le_of_ble_eq_true rfl, Nat.le_of_ble_eq_true rfl⟩ (z_nar _ (Or.inr rfl)) dL_fields_267
    · replace hf := (if_pos c32).symm.trans hf
      refine lv_aload_n hx hb dL_fields_215 rfl (lv_at hl 0 rfl) ?_
      refine lv_bipush (v := zI 6) hx hb dL_fields_216 (by decide +kernel) ?_
      refine lv_iload hx hb dL_fields_218 (lv_at hl 1 rfl) ?_
      refine lz_iadd hx hb dL_fields_220 ?_
      obtain ⟨k36, hf⟩ := zck_some hf
      refine ygld hx hb hK hG k36 dL_fields_221 ?_
      refine lv_aload_n hx hb dL_fields_222 rfl (lv_at hl 0 rfl) ?_
      refine lv_bipush (v := zI 14) hx hb dL_fields_223 (by decide +kernel) ?_
      refine lv_iload hx hb dL_fields_225 (lv_at hl 1 rfl) ?_
      refine lz_iadd hx hb dL_fields_227 ?_
      obtain ⟨k37, hf⟩ := zck_some hf
      refine ygld hx hb hK hG k37 dL_fields_228 ?_
      refine lv_iconst (v := zI 1) hx hb dL_fields_229 (by decide +kernel) ?_
      obtain ⟨k38, hf⟩ := zck_some hf
      refine lz_icmp_ne (tgt := 237) hx hb ⟨k38, by decide⟩ dL_fields_230 (by decide) (fun c39 => ?_) (fun c39 => ?_)
      · replace hf := (if_neg c39).symm.trans hf
        refine lv_bipush (v := zI 8) hx hb dL_fields_237 (by decide +kernel) ?_
        refine W.widen (Nat.le_of_ble_eq_true rfl) (Nat.le_of_ble_eq_true rfl) (J239 S1 S2 a30 (a30 (6 + x6)) 8 _ _ _ _ hG _ (lv_sub hl [] rfl) hf)
      · replace hf := (if_pos c39).symm.trans hf
        refine lv_iconst (v := zI 4) hx hb dL_fields_233 (by decide +kernel) ?_
        refine lv_goto (tgt := 239) hx hb dL_fields_234 (by decide) ?_
        refine W.widen (Nat.le_of_ble_eq_true rfl) (Nat.le_of_ble_eq_true rfl) (J239 S1 S2 a30 (a30 (6 + x6)) 4 _ _ _ _ hG _ (lv_sub hl [] rfl) hf)
  have J83 : ∀ (S1 : yS) (S2 : yS) (dv : Int → Int) (x7 : Int) (F1 F2 : Nat → Prop) (H : Heap) (locs : List Loc) (hG : yG D cI cZ cF q1 F1 S1 q2 F2 S2 qd dv E1 E2 s.heap H locs) (ls : Array Slot) (hl : lv_has ls 9 [(0, .ref q1), (2, .ref qd), (7, .int (zI x7))]), f_L_fields_83 S1 S2 dv x7 = some (R0, R_S1, R_S2, R_dv) → W p l e rmL_fields s m args below meth c H locs 14 8396 Q (F0 m 83 ls []) := by
    intro S1 S2 dv x7 F1 F2 H locs hG ls hl hf
    unfold f_L_fields_83 at hf
    refine lv_iload hx hb dL_fields_83 (lv_at hl 2 rfl) ?_
    refine lv_ldc (v := zI (-2000000003)) hx hb hown (hts _ (show Cond.constant RL 23 (zI (-2000000003)) ∈ wsL_law from zk_t4_62)) dL_fields_85 ?_
    obtain ⟨k40, hf⟩ := zck_some hf
    refine lz_icmp_ne (tgt := 106) hx hb ⟨k40, by decide⟩ dL_fields_87 (by decide) (fun c41 => ?_) (fun c41 => ?_)
    · replace hf := (if_neg c41).symm.trans hf
      refine lv_iload hx hb dL_fields_106 (lv_at hl 2 rfl) ?_
      refine lv_aload_n hx hb dL_fields_108 rfl (lv_at hl 1 rfl) ?_
      refine lv_iconst (v := zI 0) hx hb dL_fields_109 (by decide +kernel) ?_
      refine ygld hx hb hK hG (by decide) dL_fields_110 ?_
      refine lv_iconst (v := zI 1) hx hb dL_fields_111 (by decide +kernel) ?_
      refine lz_isub hx hb dL_fields_112 ?_
      obtain ⟨k42, hf⟩ := zck_some hf
      refine lz_icmp_ne (tgt := 140) hx hb k42 dL_fields_113 (by decide) (fun c43 => ?_) (fun c43 => ?_)
      · replace hf := (if_neg c43).symm.trans hf
        refine lv_iconst (v := zI 0) hx hb dL_fields_140 (by decide +kernel) ?_
        cases hf
        exact yretz hx hb hr hlocks hQ hG rfl ⟨Nat.le_of_ble_eq_true rfl, Nat.le_of_ble_eq_true rfl⟩ (z_nar _ (Or.inl rfl)) dL_fields_141
      · replace hf := (if_pos c43).symm.trans hf
        refine lv_aload_n hx hb dL_fields_116 rfl (lv_at hl 0 rfl) ?_
        refine lv_iload hx hb dL_fields_117 (lv_at hl 2 rfl) ?_
        obtain ⟨k44, hf⟩ := zck_some hf
        obtain ⟨y45, ey45, hf⟩ := zlt_some hf
        obtain ⟨k46, hf⟩ := zck_some hf
        refine ycVf (C := RX6) (As := [.int (zI x7)]) (rest := []) hx hb hml hown hts hl.1 hK (hX.kept hG.2.2.2.2.1) hNc hG.1.1 (yG_f1 hG) hG.2.2.2 (yn_covered k44 (by rw [← ey45]; exact k46)) zk_t3_186 zk_t3_187 zk_t3_188 zk_t1_1 zk_t3_189 hd_X6_covered rfl ⟨rfl, rfl, Nat.le_of_ble_eq_true rfl, Nat.le_of_ble_eq_true rfl⟩ ⟨Nat.le_of_ble_eq_true rfl, Nat.le_of_ble_eq_true rfl⟩ (yOb_recv hK hG.1.1) rfl (Nat.le_of_ble_eq_true rfl) dL_fields_119 (fun r F9 H locs hp hO hz hk9 hS => ?_)
        have hG := yG_1 hG hO hp.2 hz hk9 hS
        have hr9 := hp.1
        rw [← ey45] at hr9
        subst hr9
        refine lv_fconst0 hx hb dL_fields_122 ?_
        refine lz_fcmp hx hb dL_fields_123 ?_
        obtain ⟨k47, hf⟩ := zck_some hf
        refine lz_if_ne (tgt := 140) hx hb k47 dL_fields_124 (by decide) (fun c48 => ?_) (fun c48 => ?_)
        · replace hf := (if_neg c48).symm.trans hf
          refine lv_iconst (v := zI 0) hx hb dL_fields_140 (by decide +kernel) ?_
          cases hf
          exact yretz hx hb hr hlocks hQ hG rfl ⟨Nat.le_of_ble_eq_true rfl, Nat.le_of_ble_eq_true rfl⟩ (z_nar _ (Or.inl rfl)) dL_fields_141
        · replace hf := (if_pos c48).symm.trans hf
          refine lv_aload_n hx hb dL_fields_127 rfl (lv_at hl 0 rfl) ?_
          refine lv_iload hx hb dL_fields_128 (lv_at hl 2 rfl) ?_
          obtain ⟨k49, hf⟩ := zck_some hf
          obtain ⟨y50, ey50, hf⟩ := zlt_some hf
          obtain ⟨k51, hf⟩ := zck_some hf
          refine ycVi (C := RX6) (As := [.int (zI x7)]) (rest := []) hx hb hml hown hts hl.1 hK (hX.kept hG.2.2.2.2.1) hNc hG.1.1 (yG_f1 hG) hG.2.2.2 (yn_touched k49 (by rw [← ey50]; exact k51)) zk_t2_179 zk_t2_180 zk_t2_181 zk_t1_1 zk_t2_182 hd_X6_touched rfl ⟨rfl, rfl, Nat.le_of_ble_eq_true rfl, Nat.le_of_ble_eq_true rfl⟩ ⟨Nat.le_of_ble_eq_true rfl, Nat.le_of_ble_eq_true rfl⟩ (yOb_recv hK hG.1.1) rfl (Nat.le_of_ble_eq_true rfl) dL_fields_130 (fun r F9 H locs hp hO hz hk9 hS => ?_)
          have hG := yG_1 hG hO hp.2 hz hk9 hS
          have hr9 := hp.1
          rw [← ey50] at hr9
          subst hr9
          obtain ⟨k52, hf⟩ := zck_some hf
          refine lz_if_ne (tgt := 140) hx hb k52 dL_fields_133 (by decide) (fun c53 => ?_) (fun c53 => ?_)
          · replace hf := (if_neg c53).symm.trans hf
            refine lv_iconst (v := zI 0) hx hb dL_fields_140 (by decide +kernel) ?_
            cases hf
            exact yretz hx hb hr hlocks hQ hG rfl ⟨Nat.le_of_ble_eq_true rfl, Nat.le_of_ble_eq_true rfl⟩ (z_nar _ (Or.inl rfl)) dL_fields_141
          · replace hf := (if_pos c53).symm.trans hf
            refine lv_iconst (v := zI 1) hx hb dL_fields_136 (by decide +kernel) ?_
            refine lv_goto (tgt := 141) hx hb dL_fields_137 (by decide) ?_
            cases hf
            exact yretz hx hb hr hlocks hQ hG rfl ⟨Nat.le_of_ble_eq_true rfl, Nat.le_of_ble_eq_true rfl⟩ (z_nar _ (Or.inr rfl)) dL_fields_141
    · replace hf := (if_pos c41).symm.trans hf
      refine lv_aload_n hx hb dL_fields_90 rfl (lv_at hl 1 rfl) ?_
      refine lv_iconst (v := zI 0) hx hb dL_fields_91 (by decide +kernel) ?_
      refine ygld hx hb hK hG (by decide) dL_fields_92 ?_
      refine lv_bipush (v := zI 8) hx hb dL_fields_93 (by decide +kernel) ?_
      obtain ⟨k54, hf⟩ := zck_some hf
      refine lz_icmp_ne (tgt := 102) hx hb ⟨k54, by decide⟩ dL_fields_95 (by decide) (fun c55 => ?_) (fun c55 => ?_)
      · replace hf := (if_neg c55).symm.trans hf
        refine lv_iconst (v := zI 0) hx hb dL_fields_102 (by decide +kernel) ?_
        refine lv_goto (tgt := 141) hx hb dL_fields_103 (by decide) ?_
        cases hf
        exact yretz hx hb hr hlocks hQ hG rfl ⟨Nat.le_of_ble_eq_true rfl, Nat.le_of_ble_eq_true rfl⟩ (z_nar _ (Or.inl rfl)) dL_fields_141
      · replace hf := (if_pos c55).symm.trans hf
        refine lv_iconst (v := zI 1) hx hb dL_fields_98 (by decide +kernel) ?_
        refine lv_goto (tgt := 141) hx hb dL_fields_99 (by decide) ?_
        cases hf
        exact yretz hx hb hr hlocks hQ hG rfl ⟨Nat.le_of_ble_eq_true rfl, Nat.le_of_ble_eq_true rfl⟩ (z_nar _ (Or.inr rfl)) dL_fields_141
  have J34 : ∀ (S1 : yS) (S2 : yS) (dv : Int → Int) (x4 : Int) (s0 : Int) (F1 F2 : Nat → Prop) (H : Heap) (locs : List Loc) (hG : yG D cI cZ cF q1 F1 S1 q2 F2 S2 qd dv E1 E2 s.heap H locs) (ls : Array Slot) (hl : lv_has ls 9 [(0, .ref q1), (1, .ref q2), (2, .ref qd), (4, .int (zI x4))]), f_L_fields_34 S1 S2 dv x4 s0 = some (R0, R_S1, R_S2, R_dv) → W p l e rmL_fields s m args below meth c H locs 0 0 Q (F0 m 34 ls [.int (zI s0)]) := by
    intro S1 S2 dv x4 s0 F1 F2 H locs hG ls hl hf
    unfold f_L_fields_34 at hf
    refine lv_istore (lv' := [(6, .int (zI s0)), (0, .ref q1), (1, .ref q2), (2, .ref qd), (4, .int (zI x4))]) hx hb dL_fields_34 hl (by decide) rfl (fun ls hl => ?_)
    refine lv_aload_n hx hb dL_fields_36 rfl (lv_at hl 1 rfl) ?_
    refine lv_aload_n hx hb dL_fields_37 rfl (lv_at hl 2 rfl) ?_
    refine lv_iconst (v := zI 0) hx hb dL_fields_38 (by decide +kernel) ?_
    refine lv_iload hx hb dL_fields_39 (lv_at hl 4 rfl) ?_
    refine lv_iconst (v := zI 2) hx hb dL_fields_41 (by decide +kernel) ?_
    refine lz_ysr hx hb dL_fields_42 ?_
    refine lv_iconst (v := zI 4) hx hb dL_fields_43 (by decide +kernel) ?_
    obtain ⟨r56, k57, hf⟩ := zb1_some hf
    refine ycSi (As := [.int (zI (ysr x4 2)), .int (zI 4)]) (rest := [.int (zI 0), .ref q2, .ref q1]) (rm := rmL_some) (mc1 := 0) (ms1 := 0) (Bp := fun _ => True) (U := Unit) (post := fun (r : Int32) (_ : Unit) => r = zI r56) (Bq := fun _ _ => True) hx hb hml hown hts hl.1 hK (hX.kept hG.2.2.2.2.1) hNc trivial (yG_f0 hG) hG.2.2.2 (c_L_some k57) zk_t1_182 zk_t1_183 zk_t1_0 zk_t1_184 hd_L_some rfl ⟨rfl, rfl, Nat.le_of_ble_eq_true rfl, Nat.le_of_ble_eq_true rfl⟩ ⟨Nat.le_of_ble_eq_true rfl, Nat.le_of_ble_eq_true rfl⟩ rfl (Nat.le_of_ble_eq_true rfl) dL_fields_44 (fun r u H locs hp _ hz hk9 hS => ?_)
    have hG := yG_0 hG hz hk9 hS
    subst hp
    refine lv_iload hx hb dL_fields_47 (lv_at hl 4 rfl) ?_
    refine lv_iconst (v := zI 5) hx hb dL_fields_49 (by decide +kernel) ?_
    refine lz_ysr hx hb dL_fields_50 ?_
    refine lv_iconst (v := zI 3) hx hb dL_fields_51 (by decide +kernel) ?_
    obtain ⟨r58, k59, hf⟩ := zb1_some hf
    refine ycSi (As := [.int (zI (ysr x4 5)), .int (zI 3)]) (rest := [.int (zI r56), .int (zI 0), .ref q2, .ref q1]) (rm := rmL_some) (mc1 := 0) (ms1 := 0) (Bp := fun _ => True) (U := Unit) (post := fun (r : Int32) (_ : Unit) => r = zI r58) (Bq := fun _ _ => True) hx hb hml hown hts hl.1 hK (hX.kept hG.2.2.2.2.1) hNc trivial (yG_f0 hG) hG.2.2.2 (c_L_some k59) zk_t1_182 zk_t1_183 zk_t1_0 zk_t1_184 hd_L_some rfl ⟨rfl, rfl, Nat.le_of_ble_eq_true rfl, Nat.le_of_ble_eq_true rfl⟩ ⟨Nat.le_of_ble_eq_true rfl, Nat.le_of_ble_eq_true rfl⟩ rfl (Nat.le_of_ble_eq_true rfl) dL_fields_52 (fun r u H locs hp _ hz hk9 hS => ?_)
    have hG := yG_0 hG hz hk9 hS
    subst hp
    refine lv_iload hx hb dL_fields_55 (lv_at hl 0 rfl) ?_
    obtain ⟨r60, s61, s62, k63, hf⟩ := zb3_some hf
    refine ycSi (As := [.ref q1, .ref q2, .int (zI 0), .int (zI r56), .int (zI r58), .int (zI s0)]) (rest := []) hx hb hml hown hts hl.1 hK (hX.kept hG.2.2.2.2.1) hNc hG.1 (yG_fw hG) hG.2.2.2 (c_L_both hst k63) zk_t3_28 zk_t3_29 zk_t1_0 zk_t3_30 hd_L_both rfl ⟨rfl, rfl, Nat.le_of_ble_eq_true rfl, Nat.le_of_ble_eq_true rfl⟩ ⟨Nat.le_of_ble_eq_true rfl, Nat.le_of_ble_eq_true rfl⟩ rfl (Nat.le_of_ble_eq_true rfl) dL_fields_57 (fun r u H locs hp hW9 hz hk9 hS => ?_)
    have hG := yG_w hG hW9 hp.2 hz hS
    have hr9 := hp.1
    subst hr9
    refine lv_istore (lv' := [(7, .int (zI r60)), (6, .int (zI s0)), (0, .ref q1), (1, .ref q2), (2, .ref qd), (4, .int (zI x4))]) hx hb dL_fields_60 hl (by decide) rfl (fun ls hl => ?_)
    refine lv_iload hx hb dL_fields_62 (lv_at hl 0 rfl) ?_
    obtain ⟨k64, hf⟩ := zck_some hf
    refine lz_if_lt (tgt := 83) hx hb k64 dL_fields_64 (by decide) (fun c65 => ?_) (fun c65 => ?_)
    · replace hf := (if_pos c65).symm.trans hf
      refine W.widen (Nat.le_of_ble_eq_true rfl) (Nat.le_of_ble_eq_true rfl) (J83 s61 s62 dv r60 _ _ _ _ hG _ (lv_sub hl [2, 4, 0] rfl) hf)
    · replace hf := (if_neg c65).symm.trans hf
      refine lv_aload_n hx hb dL_fields_67 rfl (lv_at hl 4 rfl) ?_
      refine lv_bipush (v := zI 14) hx hb dL_fields_68 (by decide +kernel) ?_
      refine lv_iload hx hb dL_fields_70 (lv_at hl 0 rfl) ?_
      refine lz_iadd hx hb dL_fields_72 ?_
      refine lv_iload hx hb dL_fields_73 (lv_at hl 1 rfl) ?_
      obtain ⟨k66, hf⟩ := zck_some hf
      obtain ⟨a67, ea67, hf⟩ := zlt_some hf
      refine ygst hx hb hK hG k66 dL_fields_75 (fun H locs hG => ?_)
      rw [← ea67] at hG
      refine lv_aload_n hx hb dL_fields_76 rfl (lv_at hl 4 rfl) ?_
      refine lv_iconst (v := zI 0) hx hb dL_fields_77 (by decide +kernel) ?_
      refine lv_dup2_11 hx hb dL_fields_78 rfl rfl ?_
      refine ygld hx hb hK hG (by decide) dL_fields_79 ?_
      refine lv_iconst (v := zI 1) hx hb dL_fields_80 (by decide +kernel) ?_
      refine lz_iadd hx hb dL_fields_81 ?_
      obtain ⟨a68, ea68, hf⟩ := zlt_some hf
      refine ygst hx hb hK hG (by decide) dL_fields_82 (fun H locs hG => ?_)
      rw [← ea68] at hG
      refine W.widen (Nat.le_of_ble_eq_true rfl) (Nat.le_of_ble_eq_true rfl) (J83 s61 s62 a68 r60 _ _ _ _ hG _ (lv_sub hl [2, 4, 0] rfl) hf)
  have J20 : ∀ (S1 : yS) (S2 : yS) (dv : Int → Int) (x4 : Int) (F1 F2 : Nat → Prop) (H : Heap) (locs : List Loc) (hG : yG D cI cZ cF q1 F1 S1 q2 F2 S2 qd dv E1 E2 s.heap H locs) (ls : Array Slot) (hl : lv_has ls 9 [(0, .ref q1), (1, .ref q2), (2, .ref qd), (4, .int (zI x4))]), f_L_fields_20 S1 S2 dv x4 = some (R0, R_S1, R_S2, R_dv) → W p l e rmL_fields s m args below meth c H locs 0 0 Q (F0 m 20 ls []) := by
    intro S1 S2 dv x4 F1 F2 H locs hG ls hl hf
    unfold f_L_fields_20 at hf
    refine lv_iload hx hb dL_fields_20 (lv_at hl 3 rfl) ?_
    refine lv_iconst (v := zI 4) hx hb dL_fields_22 (by decide +kernel) ?_
    obtain ⟨r69, k70, hf⟩ := zb1_some hf
    refine ycSi (As := [.int (zI x4), .int (zI 4)]) (rest := []) (rm := rmL_some) (mc1 := 0) (ms1 := 0) (Bp := fun _ => True) (U := Unit) (post := fun (r : Int32) (_ : Unit) => r = zI r69) (Bq := fun _ _ => True) hx hb hml hown hts hl.1 hK (hX.kept hG.2.2.2.2.1) hNc trivial (yG_f0 hG) hG.2.2.2 (c_L_some k70) zk_t1_182 zk_t1_183 zk_t1_0 zk_t1_184 hd_L_some rfl ⟨rfl, rfl, Nat.le_of_ble_eq_true rfl, Nat.le_of_ble_eq_true rfl⟩ ⟨Nat.le_of_ble_eq_true rfl, Nat.le_of_ble_eq_true rfl⟩ rfl (Nat.le_of_ble_eq_true rfl) dL_fields_23 (fun r u H locs hp _ hz hk9 hS => ?_)
    have hG := yG_0 hG hz hk9 hS
    subst hp
    obtain ⟨k71, hf⟩ := zck_some hf
    refine lz_if_ne (tgt := 33) hx hb k71 dL_fields_26 (by decide) (fun c72 => ?_) (fun c72 => ?_)
    · replace hf := (if_neg c72).symm.trans hf
      refine lv_iconst (v := zI 0) hx hb dL_fields_33 (by decide +kernel) ?_
      refine W.widen (Nat.le_of_ble_eq_true rfl) (Nat.le_of_ble_eq_true rfl) (J34 S1 S2 dv x4 0 _ _ _ _ hG _ (lv_sub hl [0, 1, 2, 3] rfl) hf)
    · replace hf := (if_pos c72).symm.trans hf
      refine lv_iconst (v := zI 1) hx hb dL_fields_29 (by decide +kernel) ?_
      refine lv_goto (tgt := 34) hx hb dL_fields_30 (by decide) ?_
      refine W.widen (Nat.le_of_ble_eq_true rfl) (Nat.le_of_ble_eq_true rfl) (J34 S1 S2 dv x4 1 _ _ _ _ hG _ (lv_sub hl [0, 1, 2, 3] rfl) hf)
  unfold f_L_fields at hf
  refine lv_iload_n hx hb dL_fields_0 rfl (lv_at hl 3 rfl) ?_
  refine lv_bipush (v := zI 16) hx hb dL_fields_1 (by decide +kernel) ?_
  obtain ⟨r73, k74, hf⟩ := zb1_some hf
  refine ycSi (As := [.int (zI p3), .int (zI 16)]) (rest := []) (rm := rmL_some) (mc1 := 0) (ms1 := 0) (Bp := fun _ => True) (U := Unit) (post := fun (r : Int32) (_ : Unit) => r = zI r73) (Bq := fun _ _ => True) hx hb hml hown hts hl.1 hK (hX.kept hG.2.2.2.2.1) hNc trivial (yG_f0 hG) hG.2.2.2 (c_L_some k74) zk_t1_182 zk_t1_183 zk_t1_0 zk_t1_184 hd_L_some rfl ⟨rfl, rfl, Nat.le_of_ble_eq_true rfl, Nat.le_of_ble_eq_true rfl⟩ ⟨Nat.le_of_ble_eq_true rfl, Nat.le_of_ble_eq_true rfl⟩ rfl (Nat.le_of_ble_eq_true rfl) dL_fields_3 (fun r u H locs hp _ hz hk9 hS => ?_)
  have hG := yG_0 hG hz hk9 hS
  subst hp
  refine lv_istore (lv' := [(5, .int (zI r73)), (0, .ref q1), (1, .ref q2), (2, .ref qd), (3, .int (zI p3)), (4, .int (zI p4))]) hx hb dL_fields_6 hl (by decide) rfl (fun ls hl => ?_)
  refine lv_iload hx hb dL_fields_8 (lv_at hl 0 rfl) ?_
  refine lv_iconst (v := zI 2) hx hb dL_fields_10 (by decide +kernel) ?_
  obtain ⟨k75, hf⟩ := zck_some hf
  refine lz_icmp_lt (tgt := 20) hx hb ⟨k75, by decide⟩ dL_fields_11 (by decide) (fun c76 => ?_) (fun c76 => ?_)
  · replace hf := (if_pos c76).symm.trans hf
    refine W.widen (Nat.le_of_ble_eq_true rfl) (Nat.le_of_ble_eq_true rfl) (J20 S1 S2 dv p4 _ _ _ _ hG _ (lv_sub hl [1, 2, 3, 5] rfl) hf)
  · replace hf := (if_neg c76).symm.trans hf
    refine lv_aload_n hx hb dL_fields_14 rfl (lv_at hl 3 rfl) ?_
    refine lv_iconst (v := zI 0) hx hb dL_fields_15 (by decide +kernel) ?_
    refine ygld hx hb hK hG (by decide) dL_fields_16 ?_
    obtain ⟨k77, hf⟩ := zck_some hf
    refine lz_if_ne (tgt := 142) hx hb k77 dL_fields_17 (by decide) (fun c78 => ?_) (fun c78 => ?_)
    · replace hf := (if_neg c78).symm.trans hf
      refine lv_iload hx hb dL_fields_142 (lv_at hl 5 rfl) ?_
      refine lv_aload_n hx hb dL_fields_144 rfl (lv_at hl 3 rfl) ?_
      refine lv_iconst (v := zI 0) hx hb dL_fields_145 (by decide +kernel) ?_
      refine ygld hx hb hK hG (by decide) dL_fields_146 ?_
      obtain ⟨r79, k80, hf⟩ := zb1_some hf
      refine ycSi (As := [.int (zI p4), .int (zI (dv 0))]) (rest := []) (rm := rmL_some) (mc1 := 0) (ms1 := 0) (Bp := fun _ => True) (U := Unit) (post := fun (r : Int32) (_ : Unit) => r = zI r79) (Bq := fun _ _ => True) hx hb hml hown hts hl.1 hK (hX.kept hG.2.2.2.2.1) hNc trivial (yG_f0 hG) hG.2.2.2 (c_L_some k80) zk_t1_182 zk_t1_183 zk_t1_0 zk_t1_184 hd_L_some rfl ⟨rfl, rfl, Nat.le_of_ble_eq_true rfl, Nat.le_of_ble_eq_true rfl⟩ ⟨Nat.le_of_ble_eq_true rfl, Nat.le_of_ble_eq_true rfl⟩ rfl (Nat.le_of_ble_eq_true rfl) dL_fields_147 (fun r u H locs hp _ hz hk9 hS => ?_)
      have hG := yG_0 hG hz hk9 hS
      subst hp
      refine lv_istore (lv' := [(6, .int (zI r79)), (5, .int (zI r73)), (0, .ref q1), (1, .ref q2), (2, .ref qd), (3, .int (zI p3)), (4, .int (zI p4))]) hx hb dL_fields_150 hl (by decide) rfl (fun ls hl => ?_)
      refine lv_iload hx hb dL_fields_152 (lv_at hl 1 rfl) ?_
      refine lv_bipush (v := zI 11) hx hb dL_fields_154 (by decide +kernel) ?_
      obtain ⟨k81, hf⟩ := zck_some hf
      refine lz_icmp_ge (tgt := 268) hx hb ⟨k81, by decide⟩ dL_fields_156 (by decide) (fun c82 => ?_) (fun c82 => ?_)
      · replace hf := (if_pos c82).symm.trans hf
        refine lv_iload hx hb dL_fields_268 (lv_at hl 1 rfl) ?_
        refine lv_bipush (v := zI 14) hx hb dL_fields_270 (by decide +kernel) ?_
        obtain ⟨k83, hf⟩ := zck_some hf
        refine lz_icmp_ge (tgt := 410) hx hb ⟨k83, by decide⟩ dL_fields_272 (by decide) (fun c84 => ?_) (fun c84 => ?_)
        · replace hf := (if_pos c84).symm.trans hf
          refine lv_iload hx hb dL_fields_410 (lv_at hl 1 rfl) ?_
          refine lv_bipush (v := zI 15) hx hb dL_fields_412 (by decide +kernel) ?_
          obtain ⟨k85, hf⟩ := zck_some hf
          refine lz_icmp_ge (tgt := 458) hx hb ⟨k85, by decide⟩ dL_fields_414 (by decide) (fun c86 => ?_) (fun c86 => ?_)
          · replace hf := (if_pos c86).symm.trans hf
            refine lv_aload_n hx hb dL_fields_458 rfl (lv_at hl 4 rfl) ?_
            refine lv_iconst (v := zI 1) hx hb dL_fields_459 (by decide +kernel) ?_
            refine ygld hx hb hK hG (by decide) dL_fields_460 ?_
            obtain ⟨v87, ev87, hf⟩ := zlt_some hf
            refine lz_nm ev87 ?_
            refine lv_istore (lv' := [(7, .int (zI v87)), (6, .int (zI r79)), (5, .int (zI r73)), (0, .ref q1), (1, .ref q2), (2, .ref qd), (3, .int (zI p3)), (4, .int (zI p4))]) hx hb dL_fields_461 hl (by decide) rfl (fun ls hl => ?_)
            refine lv_aload_n hx hb dL_fields_463 rfl (lv_at hl 5 rfl) ?_
            refine lv_iconst (v := zI 1) hx hb dL_fields_464 (by decide +kernel) ?_
            refine lv_iload hx hb dL_fields_465 (lv_at hl 7 rfl) ?_
            refine lv_bipush (v := zI 101) hx hb dL_fields_467 (by decide +kernel) ?_
            obtain ⟨r88, k89, hf⟩ := zb1_some hf
            refine ycSi (As := [.int (zI p4), .int (zI 101)]) (rest := [.int (zI 1), .ref qd]) (rm := rmL_some) (mc1 := 0) (ms1 := 0) (Bp := fun _ => True) (U := Unit) (post := fun (r : Int32) (_ : Unit) => r = zI r88) (Bq := fun _ _ => True) hx hb hml hown hts hl.1 hK (hX.kept hG.2.2.2.2.1) hNc trivial (yG_f0 hG) hG.2.2.2 (c_L_some k89) zk_t1_182 zk_t1_183 zk_t1_0 zk_t1_184 hd_L_some rfl ⟨rfl, rfl, Nat.le_of_ble_eq_true rfl, Nat.le_of_ble_eq_true rfl⟩ ⟨Nat.le_of_ble_eq_true rfl, Nat.le_of_ble_eq_true rfl⟩ rfl (Nat.le_of_ble_eq_true rfl) dL_fields_469 (fun r u H locs hp _ hz hk9 hS => ?_)
            have hG := yG_0 hG hz hk9 hS
            subst hp
            obtain ⟨a90, ea90, hf⟩ := zlt_some hf
            refine ygst hx hb hK hG (by decide) dL_fields_472 (fun H locs hG => ?_)
            rw [← ea90] at hG
            refine lv_aload_n hx hb dL_fields_473 rfl (lv_at hl 3 rfl) ?_
            refine lv_aload_n hx hb dL_fields_474 rfl (lv_at hl 4 rfl) ?_
            refine lv_iconst (v := zI 3) hx hb dL_fields_475 (by decide +kernel) ?_
            refine lv_aload_n hx hb dL_fields_476 rfl (lv_at hl 5 rfl) ?_
            refine lv_iconst (v := zI 1) hx hb dL_fields_477 (by decide +kernel) ?_
            refine ygld hx hb hK hG (by decide) dL_fields_478 ?_
            refine lv_iconst (v := zI 0) hx hb dL_fields_479 (by decide +kernel) ?_
            refine lv_iconst (v := zI 0) hx hb dL_fields_480 (by decide +kernel) ?_
            obtain ⟨r91, s92, s93, k94, hf⟩ := zb3_some hf
            refine ycSi (As := [.ref q1, .ref q2, .int (zI 3), .int (zI (a90 1)), .int (zI 0), .int (zI 0)]) (rest := []) hx hb hml hown hts hl.1 hK (hX.kept hG.2.2.2.2.1) hNc hG.1 (yG_fw hG) hG.2.2.2 (c_L_both hst k94) zk_t3_28 zk_t3_29 zk_t1_0 zk_t3_30 hd_L_both rfl ⟨rfl, rfl, Nat.le_of_ble_eq_true rfl, Nat.le_of_ble_eq_true rfl⟩ ⟨Nat.le_of_ble_eq_true rfl, Nat.le_of_ble_eq_true rfl⟩ rfl (Nat.le_of_ble_eq_true rfl) dL_fields_481 (fun r u H locs hp hW9 hz hk9 hS => ?_)
            have hG := yG_w hG hW9 hp.2 hz hS
            have hr9 := hp.1
            subst hr9
            refine lv_iload hx hb dL_fields_484 (lv_at hl 0 rfl) ?_
            obtain ⟨k95, hf⟩ := zck_some hf
            refine lz_icmp_ne (tgt := 493) hx hb k95 dL_fields_486 (by decide) (fun c96 => ?_) (fun c96 => ?_)
            · replace hf := (if_neg c96).symm.trans hf
              refine lv_iconst (v := zI 0) hx hb dL_fields_493 (by decide +kernel) ?_
              cases hf
              exact yretz hx hb hr hlocks hQ hG rfl ⟨Nat.le_of_ble_eq_true rfl, Nat.le_of_ble_eq_true rfl⟩ (z_nar _ (Or.inl rfl)) dL_fields_494
            · replace hf := (if_pos c96).symm.trans hf
              refine lv_iconst (v := zI 1) hx hb dL_fields_489 (by decide +kernel) ?_
              refine lv_goto (tgt := 494) hx hb dL_fields_490 (by decide) ?_
              cases hf
              exact yretz hx hb hr hlocks hQ hG rfl ⟨Nat.le_of_ble_eq_true rfl, Nat.le_of_ble_eq_true rfl⟩ (z_nar _ (Or.inr rfl)) dL_fields_494
          · replace hf := (if_neg c86).symm.trans hf
            refine lv_aload_n hx hb dL_fields_417 rfl (lv_at hl 2 rfl) ?_
            refine lv_aload_n hx hb dL_fields_418 rfl (lv_at hl 3 rfl) ?_
            refine lv_iconst (v := zI 2) hx hb dL_fields_419 (by decide +kernel) ?_
            refine lv_iload hx hb dL_fields_420 (lv_at hl 0 rfl) ?_
            refine lv_bipush (v := zI 40) hx hb dL_fields_422 (by decide +kernel) ?_
            refine lv_iload hx hb dL_fields_424 (lv_at hl 6 rfl) ?_
            refine lv_iconst (v := zI 4) hx hb dL_fields_426 (by decide +kernel) ?_
            refine lz_ysr hx hb dL_fields_427 ?_
            refine lv_bipush (v := zI 110) hx hb dL_fields_428 (by decide +kernel) ?_
            obtain ⟨r97, k98, hf⟩ := zb1_some hf
            refine ycSi (As := [.int (zI (ysr p4 4)), .int (zI 110)]) (rest := [.int (zI 40), .int (zI r79), .int (zI 2), .ref q2, .ref q1]) (rm := rmL_some) (mc1 := 0) (ms1 := 0) (Bp := fun _ => True) (U := Unit) (post := fun (r : Int32) (_ : Unit) => r = zI r97) (Bq := fun _ _ => True) hx hb hml hown hts hl.1 hK (hX.kept hG.2.2.2.2.1) hNc trivial (yG_f0 hG) hG.2.2.2 (c_L_some k98) zk_t1_182 zk_t1_183 zk_t1_0 zk_t1_184 hd_L_some rfl ⟨rfl, rfl, Nat.le_of_ble_eq_true rfl, Nat.le_of_ble_eq_true rfl⟩ ⟨Nat.le_of_ble_eq_true rfl, Nat.le_of_ble_eq_true rfl⟩ rfl (Nat.le_of_ble_eq_true rfl) dL_fields_430 (fun r u H locs hp _ hz hk9 hS => ?_)
            have hG := yG_0 hG hz hk9 hS
            subst hp
            refine lz_iadd hx hb dL_fields_433 ?_
            refine lv_iconst (v := zI 0) hx hb dL_fields_434 (by decide +kernel) ?_
            obtain ⟨r99, s100, s101, k102, hf⟩ := zb3_some hf
            refine ycSi (As := [.ref q1, .ref q2, .int (zI 2), .int (zI r79), .int (zI (40 + r97)), .int (zI 0)]) (rest := []) hx hb hml hown hts hl.1 hK (hX.kept hG.2.2.2.2.1) hNc hG.1 (yG_fw hG) hG.2.2.2 (c_L_both hst k102) zk_t3_28 zk_t3_29 zk_t1_0 zk_t3_30 hd_L_both rfl ⟨rfl, rfl, Nat.le_of_ble_eq_true rfl, Nat.le_of_ble_eq_true rfl⟩ ⟨Nat.le_of_ble_eq_true rfl, Nat.le_of_ble_eq_true rfl⟩ rfl (Nat.le_of_ble_eq_true rfl) dL_fields_435 (fun r u H locs hp hW9 hz hk9 hS => ?_)
            have hG := yG_w hG hW9 hp.2 hz hS
            have hr9 := hp.1
            subst hr9
            refine lv_istore (lv' := [(7, .int (zI r99)), (6, .int (zI r79)), (5, .int (zI r73)), (0, .ref q1), (1, .ref q2), (2, .ref qd), (3, .int (zI p3)), (4, .int (zI p4))]) hx hb dL_fields_438 hl (by decide) rfl (fun ls hl => ?_)
            refine lv_iload hx hb dL_fields_440 (lv_at hl 0 rfl) ?_
            obtain ⟨k103, hf⟩ := zck_some hf
            refine lz_if_eq (tgt := 452) hx hb k103 dL_fields_442 (by decide) (fun c104 => ?_) (fun c104 => ?_)
            · replace hf := (if_pos c104).symm.trans hf
              refine W.widen (Nat.le_of_ble_eq_true rfl) (Nat.le_of_ble_eq_true rfl) (J452 s100 s101 dv _ _ _ _ hG _ (lv_sub hl [] rfl) hf)
            · replace hf := (if_neg c104).symm.trans hf
              refine lv_iload hx hb dL_fields_445 (lv_at hl 0 rfl) ?_
              refine lv_ldc (v := zI (-2000000003)) hx hb hown (hts _ (show Cond.constant RL 23 (zI (-2000000003)) ∈ wsL_law from zk_t4_62)) dL_fields_447 ?_
              obtain ⟨k105, hf⟩ := zck_some hf
              refine lz_icmp_ne (tgt := 456) hx hb ⟨k105, by decide⟩ dL_fields_449 (by decide) (fun c106 => ?_) (fun c106 => ?_)
              · replace hf := (if_neg c106).symm.trans hf
                refine lv_iconst (v := zI 0) hx hb dL_fields_456 (by decide +kernel) ?_
                cases hf
                exact yretz hx hb hr hlocks hQ hG rfl ⟨Nat.le_of_ble_eq_true rfl, Nat.le_of_ble_eq_true rfl⟩ (z_nar _ (Or.inl rfl)) dL_fields_457
              · replace hf := (if_pos c106).symm.trans hf
                refine W.widen (Nat.le_of_ble_eq_true rfl) (Nat.le_of_ble_eq_true rfl) (J452 s100 s101 dv _ _ _ _ hG _ (lv_sub hl [] rfl) hf)
        · replace hf := (if_neg c84).symm.trans hf
          refine lv_iload hx hb dL_fields_275 (lv_at hl 6 rfl) ?_
          refine lv_bipush (v := zI 14) hx hb dL_fields_277 (by decide +kernel) ?_
          refine lz_ysr hx hb dL_fields_279 ?_
          refine lv_iconst (v := zI 2) hx hb dL_fields_280 (by decide +kernel) ?_
          obtain ⟨r107, k108, hf⟩ := zb1_some hf
          refine ycSi (As := [.int (zI (ysr p4 14)), .int (zI 2)]) (rest := []) (rm := rmL_some) (mc1 := 0) (ms1 := 0) (Bp := fun _ => True) (U := Unit) (post := fun (r : Int32) (_ : Unit) => r = zI r107) (Bq := fun _ _ => True) hx hb hml hown hts hl.1 hK (hX.kept hG.2.2.2.2.1) hNc trivial (yG_f0 hG) hG.2.2.2 (c_L_some k108) zk_t1_182 zk_t1_183 zk_t1_0 zk_t1_184 hd_L_some rfl ⟨rfl, rfl, Nat.le_of_ble_eq_true rfl, Nat.le_of_ble_eq_true rfl⟩ ⟨Nat.le_of_ble_eq_true rfl, Nat.le_of_ble_eq_true rfl⟩ rfl (Nat.le_of_ble_eq_true rfl) dL_fields_281 (fun r u H locs hp _ hz hk9 hS => ?_)
          have hG := yG_0 hG hz hk9 hS
          subst hp
          obtain ⟨k109, hf⟩ := zck_some hf
          refine lz_if_ne (tgt := 291) hx hb k109 dL_fields_284 (by decide) (fun c110 => ?_) (fun c110 => ?_)
          · replace hf := (if_neg c110).symm.trans hf
            refine lv_iconst (v := zI 0) hx hb dL_fields_291 (by decide +kernel) ?_
            refine W.widen (Nat.le_of_ble_eq_true rfl) (Nat.le_of_ble_eq_true rfl) (J292 S1 S2 dv p4 r79 0 _ _ _ _ hG _ (lv_sub hl [2, 3, 6, 0] rfl) hf)
          · replace hf := (if_pos c110).symm.trans hf
            refine lv_iconst (v := zI 1) hx hb dL_fields_287 (by decide +kernel) ?_
            refine lv_goto (tgt := 292) hx hb dL_fields_288 (by decide) ?_
            refine W.widen (Nat.le_of_ble_eq_true rfl) (Nat.le_of_ble_eq_true rfl) (J292 S1 S2 dv p4 r79 1 _ _ _ _ hG _ (lv_sub hl [2, 3, 6, 0] rfl) hf)
      · replace hf := (if_neg c82).symm.trans hf
        refine lv_aload_n hx hb dL_fields_159 rfl (lv_at hl 2 rfl) ?_
        refine lv_aload_n hx hb dL_fields_160 rfl (lv_at hl 3 rfl) ?_
        refine lv_iconst (v := zI 1) hx hb dL_fields_161 (by decide +kernel) ?_
        refine lv_iload hx hb dL_fields_162 (lv_at hl 0 rfl) ?_
        refine lv_iload hx hb dL_fields_164 (lv_at hl 6 rfl) ?_
        refine lv_iconst (v := zI 3) hx hb dL_fields_166 (by decide +kernel) ?_
        refine lz_ysr hx hb dL_fields_167 ?_
        refine lv_bipush (v := zI 20) hx hb dL_fields_168 (by decide +kernel) ?_
        obtain ⟨r111, k112, hf⟩ := zb1_some hf
        refine ycSi (As := [.int (zI (ysr p4 3)), .int (zI 20)]) (rest := [.int (zI r79), .int (zI 1), .ref q2, .ref q1]) (rm := rmL_some) (mc1 := 0) (ms1 := 0) (Bp := fun _ => True) (U := Unit) (post := fun (r : Int32) (_ : Unit) => r = zI r111) (Bq := fun _ _ => True) hx hb hml hown hts hl.1 hK (hX.kept hG.2.2.2.2.1) hNc trivial (yG_f0 hG) hG.2.2.2 (c_L_some k112) zk_t1_182 zk_t1_183 zk_t1_0 zk_t1_184 hd_L_some rfl ⟨rfl, rfl, Nat.le_of_ble_eq_true rfl, Nat.le_of_ble_eq_true rfl⟩ ⟨Nat.le_of_ble_eq_true rfl, Nat.le_of_ble_eq_true rfl⟩ rfl (Nat.le_of_ble_eq_true rfl) dL_fields_170 (fun r u H locs hp _ hz hk9 hS => ?_)
        have hG := yG_0 hG hz hk9 hS
        subst hp
        refine lv_iload hx hb dL_fields_173 (lv_at hl 6 rfl) ?_
        refine lv_bipush (v := zI 7) hx hb dL_fields_175 (by decide +kernel) ?_
        refine lz_ysr hx hb dL_fields_177 ?_
        refine lv_bipush (v := zI 14) hx hb dL_fields_178 (by decide +kernel) ?_
        obtain ⟨r113, k114, hf⟩ := zb1_some hf
        refine ycSi (As := [.int (zI (ysr p4 7)), .int (zI 14)]) (rest := [.int (zI r111), .int (zI r79), .int (zI 1), .ref q2, .ref q1]) (rm := rmL_some) (mc1 := 0) (ms1 := 0) (Bp := fun _ => True) (U := Unit) (post := fun (r : Int32) (_ : Unit) => r = zI r113) (Bq := fun _ _ => True) hx hb hml hown hts hl.1 hK (hX.kept hG.2.2.2.2.1) hNc trivial (yG_f0 hG) hG.2.2.2 (c_L_some k114) zk_t1_182 zk_t1_183 zk_t1_0 zk_t1_184 hd_L_some rfl ⟨rfl, rfl, Nat.le_of_ble_eq_true rfl, Nat.le_of_ble_eq_true rfl⟩ ⟨Nat.le_of_ble_eq_true rfl, Nat.le_of_ble_eq_true rfl⟩ rfl (Nat.le_of_ble_eq_true rfl) dL_fields_180 (fun r u H locs hp _ hz hk9 hS => ?_)
        have hG := yG_0 hG hz hk9 hS
        subst hp
        obtain ⟨r115, s116, s117, k118, hf⟩ := zb3_some hf
        refine ycSi (As := [.ref q1, .ref q2, .int (zI 1), .int (zI r79), .int (zI r111), .int (zI r113)]) (rest := []) hx hb hml hown hts hl.1 hK (hX.kept hG.2.2.2.2.1) hNc hG.1 (yG_fw hG) hG.2.2.2 (c_L_both hst k118) zk_t3_28 zk_t3_29 zk_t1_0 zk_t3_30 hd_L_both rfl ⟨rfl, rfl, Nat.le_of_ble_eq_true rfl, Nat.le_of_ble_eq_true rfl⟩ ⟨Nat.le_of_ble_eq_true rfl, Nat.le_of_ble_eq_true rfl⟩ rfl (Nat.le_of_ble_eq_true rfl) dL_fields_183 (fun r u H locs hp hW9 hz hk9 hS => ?_)
        have hG := yG_w hG hW9 hp.2 hz hS
        have hr9 := hp.1
        subst hr9
        refine lv_istore (lv' := [(7, .int (zI r115)), (6, .int (zI r79)), (5, .int (zI r73)), (0, .ref q1), (1, .ref q2), (2, .ref qd), (3, .int (zI p3)), (4, .int (zI p4))]) hx hb dL_fields_186 hl (by decide) rfl (fun ls hl => ?_)
        refine lv_aload_n hx hb dL_fields_188 rfl (lv_at hl 5 rfl) ?_
        refine lv_bipush (v := zI 6) hx hb dL_fields_189 (by decide +kernel) ?_
        refine lv_iload hx hb dL_fields_191 (lv_at hl 1 rfl) ?_
        refine lz_iadd hx hb dL_fields_193 ?_
        refine lv_dup2_11 hx hb dL_fields_194 rfl rfl ?_
        obtain ⟨k119, hf⟩ := zck_some hf
        refine ygld hx hb hK hG k119 dL_fields_195 ?_
        refine lv_iload hx hb dL_fields_196 (lv_at hl 0 rfl) ?_
        obtain ⟨k120, hf⟩ := zck_some hf
        refine lz_if_lt (tgt := 205) hx hb k120 dL_fields_198 (by decide) (fun c121 => ?_) (fun c121 => ?_)
        · replace hf := (if_pos c121).symm.trans hf
          refine lv_iconst (v := zI 0) hx hb dL_fields_205 (by decide +kernel) ?_
          refine W.widen (Nat.le_of_ble_eq_true rfl) (Nat.le_of_ble_eq_true rfl) (J206 s116 s117 dv r79 r115 (6 + r79) (dv (6 + r79)) 0 _ _ _ _ hG _ (lv_sub hl [5, 1, 0] rfl) hf)
        · replace hf := (if_neg c121).symm.trans hf
          refine lv_iconst (v := zI 1) hx hb dL_fields_201 (by decide +kernel) ?_
          refine lv_goto (tgt := 206) hx hb dL_fields_202 (by decide) ?_
          refine W.widen (Nat.le_of_ble_eq_true rfl) (Nat.le_of_ble_eq_true rfl) (J206 s116 s117 dv r79 r115 (6 + r79) (dv (6 + r79)) 1 _ _ _ _ hG _ (lv_sub hl [5, 1, 0] rfl) hf)
    · replace hf := (if_pos c78).symm.trans hf
      refine W.widen (Nat.le_of_ble_eq_true rfl) (Nat.le_of_ble_eq_true rfl) (J20 S1 S2 dv p4 _ _ _ _ hG _ (lv_sub hl [1, 2, 3, 5] rfl) hf)
