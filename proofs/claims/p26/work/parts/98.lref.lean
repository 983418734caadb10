abbrev rmL_refused : Room := { frames := 10, cells := 170, slots := 100764, locals := 238 }
theorem hd_L_refused : yL_refused.cls ≠ "java/lang/invoke/MethodHandle" ∧ yL_refused.cls ≠ "java/lang/invoke/VarHandle" ∧ (parseMethodDescriptor yL_refused.desc).map (fun d => d.parameters.length) = some 2 := by decide +kernel
set_option maxHeartbeats 4000000 in
set_option maxRecDepth 100000 in
theorem c_L_refused {l : Launch} (hst : l.stackTraces = false) {D : va_G} {cI cZ cF cL cD : ClassId} {q1 q2 qd sz : Nat} {E1 E2 : Nat → Prop} {S1 : yS} {dv : Int → Int} {S2 : yS} {R0 : Int} {R_S1 : yS} (hf : f_L_refused S1 dv = some (R0, R_S1)) :
    Met l yL_refused (Cond.code yL_refused cL_refused 5 (some .boolean) :: wsL_law) rmL_refused (yPc D (zT cI cZ cF cL cD) sz (yA E1 E2 qd sz) (yW D cI cZ cF q1 E1 S1 q2 E2 S2 qd dv) [.ref q1, .ref qd]) (yQLi D cI cZ cF q1 E1 q2 E2 qd sz (fun r => r = zI R0) R_S1 S2 dv) 170 100764 (yA E1 E2 qd sz) := by
  refine yMet0 (by decide) (Nat.le_of_ble_eq_true rfl) ?_
  intro p e s m args below meth c Q hx hb hr hlocks hml hown hts hK hX hNc hsz hQ hW9 hS9 ls hl
  subst hsz
  have hG := yG_in hW9 hS9
  have hl : lv_has ls 5 [(0, .ref q1), (1, .ref qd)] := hl
  have J238 : ∀ (S1 : yS) (x2 : Int64) (s0 : Int) (F1 F2 : Nat → Prop) (H : Heap) (locs : List Loc) (hG : yG D cI cZ cF q1 F1 S1 q2 F2 S2 qd dv E1 E2 s.heap H locs) (ls : Array Slot) (hl : lv_has ls 5 [(0, .ref q1), (1, .ref qd), (2, .long x2)]), f_L_refused_238 S1 dv x2 s0 = some (R0, R_S1) → W p l e rmL_refused s m args below meth c H locs 107 62982 Q (F0 m 238 ls [.int (zI s0)]) := by
    intro S1 x2 s0 F1 F2 H locs hG ls hl hf
    unfold f_L_refused_238 at hf
    refine lv_istore (lv' := [(4, .int (zI s0)), (0, .ref q1), (1, .ref qd), (2, .long x2)]) hx hb dL_refused_238 hl (by decide) rfl (fun ls hl => ?_)
    refine lv_iload hx hb dL_refused_240 (lv_at hl 0 rfl) ?_
    obtain ⟨k1, hf⟩ := zck_some hf
    refine lz_if_eq (tgt := 392) hx hb k1 dL_refused_242 (by decide) (fun c2 => ?_) (fun c2 => ?_)
    · replace hf := (if_pos c2).symm.trans hf
      refine lv_iconst (v := zI 0) hx hb dL_refused_392 (by decide +kernel) ?_
      cases hf
      exact yretz hx hb hr hlocks hQ hG rfl ⟨Nat.le_of_ble_eq_true rfl, Nat.le_of_ble_eq_true rfl⟩ (z_nar _ (Or.inl rfl)) dL_refused_393
    · replace hf := (if_neg c2).symm.trans hf
      refine lv_aload_n hx hb dL_refused_245 rfl (lv_at hl 1 rfl) ?_
      refine lv_bipush (v := zI 11) hx hb dL_refused_246 (by decide +kernel) ?_
      refine lv_aload_n hx hb dL_refused_248 rfl (lv_at hl 2 rfl) ?_
      refine lv_iconst (v := zI 2) hx hb dL_refused_249 (by decide +kernel) ?_
      refine ygld hx hb hK hG (by decide) dL_refused_250 ?_
      refine lv_iconst (v := zI 0) hx hb dL_refused_251 (by decide +kernel) ?_
      refine lv_iconst (v := zI 0) hx hb dL_refused_252 (by decide +kernel) ?_
      obtain ⟨r3, s4, k5, hf⟩ := zb2_some hf
      refine ycSiW (As := [.ref q1, .int (zI 11), .int (zI (dv 2)), .int (zI 0), .int (zI 0)]) (rest := []) hx hb hml hown hts hl.1 hK (hX.kept hG.2.2.2.2.1) hNc hG.1 (yG_fw hG) hG.2.2.2 (c_L_call hst k5) zk_t3_31 zk_t3_32 zk_t1_0 zk_t3_33 hd_L_call rfl ⟨rfl, rfl, Nat.le_of_ble_eq_true rfl, Nat.le_of_ble_eq_true rfl⟩ ⟨Nat.le_of_ble_eq_true rfl, Nat.le_of_ble_eq_true rfl⟩ rfl (Nat.le_of_ble_eq_true rfl) dL_refused_253 (fun r u H locs hp hW9 hz hk9 hS => ?_)
      have hG := yG_w hG hW9 hp.2 hz hS
      have hr9 := hp.1
      subst hr9
      refine lv_ldc (v := zI (-2000000001)) hx hb hown (hts _ (show Cond.constant RL 17 (zI (-2000000001)) ∈ wsL_law from zk_t4_60)) dL_refused_256 ?_
      obtain ⟨k6, hf⟩ := zck_some hf
      refine lz_icmp_ne (tgt := 392) hx hb ⟨k6, by decide⟩ dL_refused_258 (by decide) (fun c7 => ?_) (fun c7 => ?_)
      · replace hf := (if_neg c7).symm.trans hf
        refine lv_iconst (v := zI 0) hx hb dL_refused_392 (by decide +kernel) ?_
        cases hf
        exact yretz hx hb hr hlocks hQ hG rfl ⟨Nat.le_of_ble_eq_true rfl, Nat.le_of_ble_eq_true rfl⟩ (z_nar _ (Or.inl rfl)) dL_refused_393
      · replace hf := (if_pos c7).symm.trans hf
        refine lv_aload_n hx hb dL_refused_261 rfl (lv_at hl 1 rfl) ?_
        refine lv_bipush (v := zI 12) hx hb dL_refused_262 (by decide +kernel) ?_
        refine lv_iconst (v := zI (-1)) hx hb dL_refused_264 (by decide +kernel) ?_
        refine lv_iconst (v := zI 0) hx hb dL_refused_265 (by decide +kernel) ?_
        refine lv_iconst (v := zI 0) hx hb dL_refused_266 (by decide +kernel) ?_
        obtain ⟨r8, s9, k10, hf⟩ := zb2_some hf
        refine ycSiW (As := [.ref q1, .int (zI 12), .int (zI (-1)), .int (zI 0), .int (zI 0)]) (rest := []) hx hb hml hown hts hl.1 hK (hX.kept hG.2.2.2.2.1) hNc hG.1 (yG_fw hG) hG.2.2.2 (c_L_call hst k10) zk_t3_31 zk_t3_32 zk_t1_0 zk_t3_33 hd_L_call rfl ⟨rfl, rfl, Nat.le_of_ble_eq_true rfl, Nat.le_of_ble_eq_true rfl⟩ ⟨Nat.le_of_ble_eq_true rfl, Nat.le_of_ble_eq_true rfl⟩ rfl (Nat.le_of_ble_eq_true rfl) dL_refused_267 (fun r u H locs hp hW9 hz hk9 hS => ?_)
        have hG := yG_w hG hW9 hp.2 hz hS
        have hr9 := hp.1
        subst hr9
        refine lv_ldc (v := zI (-2000000002)) hx hb hown (hts _ (show Cond.constant RL 20 (zI (-2000000002)) ∈ wsL_law from zk_t4_61)) dL_refused_270 ?_
        obtain ⟨k11, hf⟩ := zck_some hf
        refine lz_icmp_ne (tgt := 392) hx hb ⟨k11, by decide⟩ dL_refused_272 (by decide) (fun c12 => ?_) (fun c12 => ?_)
        · replace hf := (if_neg c12).symm.trans hf
          refine lv_iconst (v := zI 0) hx hb dL_refused_392 (by decide +kernel) ?_
          cases hf
          exact yretz hx hb hr hlocks hQ hG rfl ⟨Nat.le_of_ble_eq_true rfl, Nat.le_of_ble_eq_true rfl⟩ (z_nar _ (Or.inl rfl)) dL_refused_393
        · replace hf := (if_pos c12).symm.trans hf
          refine lv_aload_n hx hb dL_refused_275 rfl (lv_at hl 1 rfl) ?_
          refine lv_bipush (v := zI 12) hx hb dL_refused_276 (by decide +kernel) ?_
          refine lv_aload_n hx hb dL_refused_278 rfl (lv_at hl 2 rfl) ?_
          refine lv_iconst (v := zI 2) hx hb dL_refused_279 (by decide +kernel) ?_
          refine ygld hx hb hK hG (by decide) dL_refused_280 ?_
          refine lv_iconst (v := zI 1) hx hb dL_refused_281 (by decide +kernel) ?_
          refine lz_iadd hx hb dL_refused_282 ?_
          refine lv_iconst (v := zI 0) hx hb dL_refused_283 (by decide +kernel) ?_
          refine lv_iconst (v := zI 0) hx hb dL_refused_284 (by decide +kernel) ?_
          obtain ⟨r13, s14, k15, hf⟩ := zb2_some hf
          refine ycSiW (As := [.ref q1, .int (zI 12), .int (zI ((dv 2) + 1)), .int (zI 0), .int (zI 0)]) (rest := []) hx hb hml hown hts hl.1 hK (hX.kept hG.2.2.2.2.1) hNc hG.1 (yG_fw hG) hG.2.2.2 (c_L_call hst k15) zk_t3_31 zk_t3_32 zk_t1_0 zk_t3_33 hd_L_call rfl ⟨rfl, rfl, Nat.le_of_ble_eq_true rfl, Nat.le_of_ble_eq_true rfl⟩ ⟨Nat.le_of_ble_eq_true rfl, Nat.le_of_ble_eq_true rfl⟩ rfl (Nat.le_of_ble_eq_true rfl) dL_refused_285 (fun r u H locs hp hW9 hz hk9 hS => ?_)
          have hG := yG_w hG hW9 hp.2 hz hS
          have hr9 := hp.1
          subst hr9
          refine lv_ldc (v := zI (-2000000002)) hx hb hown (hts _ (show Cond.constant RL 20 (zI (-2000000002)) ∈ wsL_law from zk_t4_61)) dL_refused_288 ?_
          obtain ⟨k16, hf⟩ := zck_some hf
          refine lz_icmp_ne (tgt := 392) hx hb ⟨k16, by decide⟩ dL_refused_290 (by decide) (fun c17 => ?_) (fun c17 => ?_)
          · replace hf := (if_neg c17).symm.trans hf
            refine lv_iconst (v := zI 0) hx hb dL_refused_392 (by decide +kernel) ?_
            cases hf
            exact yretz hx hb hr hlocks hQ hG rfl ⟨Nat.le_of_ble_eq_true rfl, Nat.le_of_ble_eq_true rfl⟩ (z_nar _ (Or.inl rfl)) dL_refused_393
          · replace hf := (if_pos c17).symm.trans hf
            refine lv_aload_n hx hb dL_refused_293 rfl (lv_at hl 1 rfl) ?_
            refine lv_bipush (v := zI 13) hx hb dL_refused_294 (by decide +kernel) ?_
            refine lv_iconst (v := zI 0) hx hb dL_refused_296 (by decide +kernel) ?_
            refine lv_iconst (v := zI 0) hx hb dL_refused_297 (by decide +kernel) ?_
            refine lv_iconst (v := zI 0) hx hb dL_refused_298 (by decide +kernel) ?_
            obtain ⟨r18, s19, k20, hf⟩ := zb2_some hf
            refine ycSiW (As := [.ref q1, .int (zI 13), .int (zI 0), .int (zI 0), .int (zI 0)]) (rest := []) hx hb hml hown hts hl.1 hK (hX.kept hG.2.2.2.2.1) hNc hG.1 (yG_fw hG) hG.2.2.2 (c_L_call hst k20) zk_t3_31 zk_t3_32 zk_t1_0 zk_t3_33 hd_L_call rfl ⟨rfl, rfl, Nat.le_of_ble_eq_true rfl, Nat.le_of_ble_eq_true rfl⟩ ⟨Nat.le_of_ble_eq_true rfl, Nat.le_of_ble_eq_true rfl⟩ rfl (Nat.le_of_ble_eq_true rfl) dL_refused_299 (fun r u H locs hp hW9 hz hk9 hS => ?_)
            have hG := yG_w hG hW9 hp.2 hz hS
            have hr9 := hp.1
            subst hr9
            refine lv_ldc (v := zI (-2000000002)) hx hb hown (hts _ (show Cond.constant RL 20 (zI (-2000000002)) ∈ wsL_law from zk_t4_61)) dL_refused_302 ?_
            obtain ⟨k21, hf⟩ := zck_some hf
            refine lz_icmp_ne (tgt := 392) hx hb ⟨k21, by decide⟩ dL_refused_304 (by decide) (fun c22 => ?_) (fun c22 => ?_)
            · replace hf := (if_neg c22).symm.trans hf
              refine lv_iconst (v := zI 0) hx hb dL_refused_392 (by decide +kernel) ?_
              cases hf
              exact yretz hx hb hr hlocks hQ hG rfl ⟨Nat.le_of_ble_eq_true rfl, Nat.le_of_ble_eq_true rfl⟩ (z_nar _ (Or.inl rfl)) dL_refused_393
            · replace hf := (if_pos c22).symm.trans hf
              refine lv_aload_n hx hb dL_refused_307 rfl (lv_at hl 1 rfl) ?_
              refine lv_bipush (v := zI 13) hx hb dL_refused_308 (by decide +kernel) ?_
              refine lv_iconst (v := zI 1) hx hb dL_refused_310 (by decide +kernel) ?_
              refine lv_bipush (v := zI 21) hx hb dL_refused_311 (by decide +kernel) ?_
              refine lv_iconst (v := zI 0) hx hb dL_refused_313 (by decide +kernel) ?_
              obtain ⟨r23, s24, k25, hf⟩ := zb2_some hf
              refine ycSiW (As := [.ref q1, .int (zI 13), .int (zI 1), .int (zI 21), .int (zI 0)]) (rest := []) hx hb hml hown hts hl.1 hK (hX.kept hG.2.2.2.2.1) hNc hG.1 (yG_fw hG) hG.2.2.2 (c_L_call hst k25) zk_t3_31 zk_t3_32 zk_t1_0 zk_t3_33 hd_L_call rfl ⟨rfl, rfl, Nat.le_of_ble_eq_true rfl, Nat.le_of_ble_eq_true rfl⟩ ⟨Nat.le_of_ble_eq_true rfl, Nat.le_of_ble_eq_true rfl⟩ rfl (Nat.le_of_ble_eq_true rfl) dL_refused_314 (fun r u H locs hp hW9 hz hk9 hS => ?_)
              have hG := yG_w hG hW9 hp.2 hz hS
              have hr9 := hp.1
              subst hr9
              refine lv_ldc (v := zI (-2000000002)) hx hb hown (hts _ (show Cond.constant RL 20 (zI (-2000000002)) ∈ wsL_law from zk_t4_61)) dL_refused_317 ?_
              obtain ⟨k26, hf⟩ := zck_some hf
              refine lz_icmp_ne (tgt := 392) hx hb ⟨k26, by decide⟩ dL_refused_319 (by decide) (fun c27 => ?_) (fun c27 => ?_)
              · replace hf := (if_neg c27).symm.trans hf
                refine lv_iconst (v := zI 0) hx hb dL_refused_392 (by decide +kernel) ?_
                cases hf
                exact yretz hx hb hr hlocks hQ hG rfl ⟨Nat.le_of_ble_eq_true rfl, Nat.le_of_ble_eq_true rfl⟩ (z_nar _ (Or.inl rfl)) dL_refused_393
              · replace hf := (if_pos c27).symm.trans hf
                refine lv_aload_n hx hb dL_refused_322 rfl (lv_at hl 1 rfl) ?_
                refine lv_bipush (v := zI 14) hx hb dL_refused_323 (by decide +kernel) ?_
                refine lv_iconst (v := zI 0) hx hb dL_refused_325 (by decide +kernel) ?_
                refine lv_iconst (v := zI 0) hx hb dL_refused_326 (by decide +kernel) ?_
                refine lv_iconst (v := zI 0) hx hb dL_refused_327 (by decide +kernel) ?_
                obtain ⟨r28, s29, k30, hf⟩ := zb2_some hf
                refine ycSiW (As := [.ref q1, .int (zI 14), .int (zI 0), .int (zI 0), .int (zI 0)]) (rest := []) hx hb hml hown hts hl.1 hK (hX.kept hG.2.2.2.2.1) hNc hG.1 (yG_fw hG) hG.2.2.2 (c_L_call hst k30) zk_t3_31 zk_t3_32 zk_t1_0 zk_t3_33 hd_L_call rfl ⟨rfl, rfl, Nat.le_of_ble_eq_true rfl, Nat.le_of_ble_eq_true rfl⟩ ⟨Nat.le_of_ble_eq_true rfl, Nat.le_of_ble_eq_true rfl⟩ rfl (Nat.le_of_ble_eq_true rfl) dL_refused_328 (fun r u H locs hp hW9 hz hk9 hS => ?_)
                have hG := yG_w hG hW9 hp.2 hz hS
                have hr9 := hp.1
                subst hr9
                refine lv_ldc (v := zI (-2000000002)) hx hb hown (hts _ (show Cond.constant RL 20 (zI (-2000000002)) ∈ wsL_law from zk_t4_61)) dL_refused_331 ?_
                obtain ⟨k31, hf⟩ := zck_some hf
                refine lz_icmp_ne (tgt := 392) hx hb ⟨k31, by decide⟩ dL_refused_333 (by decide) (fun c32 => ?_) (fun c32 => ?_)
                · replace hf := (if_neg c32).symm.trans hf
                  refine lv_iconst (v := zI 0) hx hb dL_refused_392 (by decide +kernel) ?_
                  cases hf
                  exact yretz hx hb hr hlocks hQ hG rfl ⟨Nat.le_of_ble_eq_true rfl, Nat.le_of_ble_eq_true rfl⟩ (z_nar _ (Or.inl rfl)) dL_refused_393
                · replace hf := (if_pos c32).symm.trans hf
                  refine lv_aload_n hx hb dL_refused_336 rfl (lv_at hl 1 rfl) ?_
                  refine lv_bipush (v := zI 15) hx hb dL_refused_337 (by decide +kernel) ?_
                  refine lv_iconst (v := zI 4) hx hb dL_refused_339 (by decide +kernel) ?_
                  refine lv_iconst (v := zI 0) hx hb dL_refused_340 (by decide +kernel) ?_
                  refine lv_iconst (v := zI 0) hx hb dL_refused_341 (by decide +kernel) ?_
                  obtain ⟨r33, s34, k35, hf⟩ := zb2_some hf
                  refine ycSiW (As := [.ref q1, .int (zI 15), .int (zI 4), .int (zI 0), .int (zI 0)]) (rest := []) hx hb hml hown hts hl.1 hK (hX.kept hG.2.2.2.2.1) hNc hG.1 (yG_fw hG) hG.2.2.2 (c_L_call hst k35) zk_t3_31 zk_t3_32 zk_t1_0 zk_t3_33 hd_L_call rfl ⟨rfl, rfl, Nat.le_of_ble_eq_true rfl, Nat.le_of_ble_eq_true rfl⟩ ⟨Nat.le_of_ble_eq_true rfl, Nat.le_of_ble_eq_true rfl⟩ rfl (Nat.le_of_ble_eq_true rfl) dL_refused_342 (fun r u H locs hp hW9 hz hk9 hS => ?_)
                  have hG := yG_w hG hW9 hp.2 hz hS
                  have hr9 := hp.1
                  subst hr9
                  refine lv_ldc (v := zI (-2000000001)) hx hb hown (hts _ (show Cond.constant RL 17 (zI (-2000000001)) ∈ wsL_law from zk_t4_60)) dL_refused_345 ?_
                  obtain ⟨k36, hf⟩ := zck_some hf
                  refine lz_icmp_ne (tgt := 392) hx hb ⟨k36, by decide⟩ dL_refused_347 (by decide) (fun c37 => ?_) (fun c37 => ?_)
                  · replace hf := (if_neg c37).symm.trans hf
                    refine lv_iconst (v := zI 0) hx hb dL_refused_392 (by decide +kernel) ?_
                    cases hf
                    exact yretz hx hb hr hlocks hQ hG rfl ⟨Nat.le_of_ble_eq_true rfl, Nat.le_of_ble_eq_true rfl⟩ (z_nar _ (Or.inl rfl)) dL_refused_393
                  · replace hf := (if_pos c37).symm.trans hf
                    refine lv_aload_n hx hb dL_refused_350 rfl (lv_at hl 1 rfl) ?_
                    refine lv_bipush (v := zI 16) hx hb dL_refused_351 (by decide +kernel) ?_
                    refine lv_iconst (v := zI (-1)) hx hb dL_refused_353 (by decide +kernel) ?_
                    refine lv_iconst (v := zI 0) hx hb dL_refused_354 (by decide +kernel) ?_
                    refine lv_iconst (v := zI 0) hx hb dL_refused_355 (by decide +kernel) ?_
                    obtain ⟨r38, s39, k40, hf⟩ := zb2_some hf
                    refine ycSiW (As := [.ref q1, .int (zI 16), .int (zI (-1)), .int (zI 0), .int (zI 0)]) (rest := []) hx hb hml hown hts hl.1 hK (hX.kept hG.2.2.2.2.1) hNc hG.1 (yG_fw hG) hG.2.2.2 (c_L_call hst k40) zk_t3_31 zk_t3_32 zk_t1_0 zk_t3_33 hd_L_call rfl ⟨rfl, rfl, Nat.le_of_ble_eq_true rfl, Nat.le_of_ble_eq_true rfl⟩ ⟨Nat.le_of_ble_eq_true rfl, Nat.le_of_ble_eq_true rfl⟩ rfl (Nat.le_of_ble_eq_true rfl) dL_refused_356 (fun r u H locs hp hW9 hz hk9 hS => ?_)
                    have hG := yG_w hG hW9 hp.2 hz hS
                    have hr9 := hp.1
                    subst hr9
                    refine lv_ldc (v := zI (-2000000001)) hx hb hown (hts _ (show Cond.constant RL 17 (zI (-2000000001)) ∈ wsL_law from zk_t4_60)) dL_refused_359 ?_
                    obtain ⟨k41, hf⟩ := zck_some hf
                    refine lz_icmp_ne (tgt := 392) hx hb ⟨k41, by decide⟩ dL_refused_361 (by decide) (fun c42 => ?_) (fun c42 => ?_)
                    · replace hf := (if_neg c42).symm.trans hf
                      refine lv_iconst (v := zI 0) hx hb dL_refused_392 (by decide +kernel) ?_
                      cases hf
                      exact yretz hx hb hr hlocks hQ hG rfl ⟨Nat.le_of_ble_eq_true rfl, Nat.le_of_ble_eq_true rfl⟩ (z_nar _ (Or.inl rfl)) dL_refused_393
                    · replace hf := (if_pos c42).symm.trans hf
                      refine lv_aload_n hx hb dL_refused_364 rfl (lv_at hl 1 rfl) ?_
                      refine lv_bipush (v := zI 17) hx hb dL_refused_365 (by decide +kernel) ?_
                      refine lv_iconst (v := zI 4) hx hb dL_refused_367 (by decide +kernel) ?_
                      refine lv_iconst (v := zI 0) hx hb dL_refused_368 (by decide +kernel) ?_
                      refine lv_iconst (v := zI 0) hx hb dL_refused_369 (by decide +kernel) ?_
                      obtain ⟨r43, s44, k45, hf⟩ := zb2_some hf
                      refine ycSiW (As := [.ref q1, .int (zI 17), .int (zI 4), .int (zI 0), .int (zI 0)]) (rest := []) hx hb hml hown hts hl.1 hK (hX.kept hG.2.2.2.2.1) hNc hG.1 (yG_fw hG) hG.2.2.2 (c_L_call hst k45) zk_t3_31 zk_t3_32 zk_t1_0 zk_t3_33 hd_L_call rfl ⟨rfl, rfl, Nat.le_of_ble_eq_true rfl, Nat.le_of_ble_eq_true rfl⟩ ⟨Nat.le_of_ble_eq_true rfl, Nat.le_of_ble_eq_true rfl⟩ rfl (Nat.le_of_ble_eq_true rfl) dL_refused_370 (fun r u H locs hp hW9 hz hk9 hS => ?_)
                      have hG := yG_w hG hW9 hp.2 hz hS
                      have hr9 := hp.1
                      subst hr9
                      refine lv_ldc (v := zI (-2000000001)) hx hb hown (hts _ (show Cond.constant RL 17 (zI (-2000000001)) ∈ wsL_law from zk_t4_60)) dL_refused_373 ?_
                      obtain ⟨k46, hf⟩ := zck_some hf
                      refine lz_icmp_ne (tgt := 392) hx hb ⟨k46, by decide⟩ dL_refused_375 (by decide) (fun c47 => ?_) (fun c47 => ?_)
                      · replace hf := (if_neg c47).symm.trans hf
                        refine lv_iconst (v := zI 0) hx hb dL_refused_392 (by decide +kernel) ?_
                        cases hf
                        exact yretz hx hb hr hlocks hQ hG rfl ⟨Nat.le_of_ble_eq_true rfl, Nat.le_of_ble_eq_true rfl⟩ (z_nar _ (Or.inl rfl)) dL_refused_393
                      · replace hf := (if_pos c47).symm.trans hf
                        refine lv_aload_n hx hb dL_refused_378 rfl (lv_at hl 1 rfl) ?_
                        refine lv_aload_n hx hb dL_refused_379 rfl (lv_at hl 2 rfl) ?_
                        obtain ⟨r48, k49, hf⟩ := zb1_some hf
                        refine ycSl (As := [.ref q1, .ref qd]) (rest := []) hx hb hml hown hts hl.1 hK (hX.kept hG.2.2.2.2.1) hNc hG.1 (yG_fw hG) hG.2.2.2 (c_L_all hst k49) zk_t1_185 zk_t1_186 zk_t1_0 zk_t1_187 hd_L_all rfl ⟨rfl, rfl, Nat.le_of_ble_eq_true rfl, Nat.le_of_ble_eq_true rfl⟩ ⟨Nat.le_of_ble_eq_true rfl, Nat.le_of_ble_eq_true rfl⟩ rfl (Nat.le_of_ble_eq_true rfl) dL_refused_380 (fun r u H locs hp hW9 hz hk9 hS => ?_)
                        have hG := yG_w hG hW9 hp.2 hz hS
                        have hr9 := hp.1.symm
                        subst hr9
                        refine lv_lload_n hx hb dL_refused_383 rfl (lv_at hl 3 rfl) ?_
                        refine lz_lcmp hx hb dL_refused_384 ?_
                        obtain ⟨k50, hf⟩ := zck_some hf
                        refine lz_if_ne (tgt := 392) hx hb k50 dL_refused_385 (by decide) (fun c51 => ?_) (fun c51 => ?_)
                        · replace hf := (if_neg c51).symm.trans hf
                          refine lv_iconst (v := zI 0) hx hb dL_refused_392 (by decide +kernel) ?_
                          cases hf
                          exact yretz hx hb hr hlocks hQ hG rfl ⟨Nat.le_of_ble_eq_true rfl, Nat.le_of_ble_eq_true rfl⟩ (z_nar _ (Or.inl rfl)) dL_refused_393
                        · replace hf := (if_pos c51).symm.trans hf
                          refine lv_iconst (v := zI 1) hx hb dL_refused_388 (by decide +kernel) ?_
                          refine lv_goto (tgt := 393) hx hb dL_refused_389 (by decide) ?_
                          cases hf
                          exact yretz hx hb hr hlocks hQ hG rfl ⟨Nat.le_of_ble_eq_true rfl, Nat.le_of_ble_eq_true rfl⟩ (z_nar _ (Or.inr rfl)) dL_refused_393
  have J237 : ∀ (S1 : yS) (x2 : Int64) (F1 F2 : Nat → Prop) (H : Heap) (locs : List Loc) (hG : yG D cI cZ cF q1 F1 S1 q2 F2 S2 qd dv E1 E2 s.heap H locs) (ls : Array Slot) (hl : lv_has ls 5 [(0, .ref q1), (1, .ref qd), (2, .long x2)]), f_L_refused_237 S1 dv x2 = some (R0, R_S1) → W p l e rmL_refused s m args below meth c H locs 107 62982 Q (F0 m 237 ls []) := by
    intro S1 x2 F1 F2 H locs hG ls hl hf
    unfold f_L_refused_237 at hf
    refine lv_iconst (v := zI 0) hx hb dL_refused_237 (by decide +kernel) ?_
    refine W.widen (Nat.le_of_ble_eq_true rfl) (Nat.le_of_ble_eq_true rfl) (J238 S1 x2 0 _ _ _ _ hG _ (lv_sub hl [0, 1, 2] rfl) hf)
  unfold f_L_refused at hf
  refine lv_aload_n hx hb dL_refused_0 rfl (lv_at hl 0 rfl) ?_
  refine lv_aload_n hx hb dL_refused_1 rfl (lv_at hl 1 rfl) ?_
  obtain ⟨r52, k53, hf⟩ := zb1_some hf
  refine ycSl (As := [.ref q1, .ref qd]) (rest := []) hx hb hml hown hts hl.1 hK (hX.kept hG.2.2.2.2.1) hNc hG.1 (yG_fw hG) hG.2.2.2 (c_L_all hst k53) zk_t1_185 zk_t1_186 zk_t1_0 zk_t1_187 hd_L_all rfl ⟨rfl, rfl, Nat.le_of_ble_eq_true rfl, Nat.le_of_ble_eq_true rfl⟩ ⟨Nat.le_of_ble_eq_true rfl, Nat.le_of_ble_eq_true rfl⟩ rfl (Nat.le_of_ble_eq_true rfl) dL_refused_2 (fun r u H locs hp hW9 hz hk9 hS => ?_)
  have hG := yG_w hG hW9 hp.2 hz hS
  have hr9 := hp.1.symm
  subst hr9
  refine lv_lstore_n (lv' := [(2, .long r52), (0, .ref q1), (1, .ref qd)]) hx hb dL_refused_5 rfl hl (by decide) rfl (fun ls hl => ?_)
  refine lv_aload_n hx hb dL_refused_6 rfl (lv_at hl 1 rfl) ?_
  refine lv_iconst (v := zI 0) hx hb dL_refused_7 (by decide +kernel) ?_
  refine lv_iconst (v := zI (-1)) hx hb dL_refused_8 (by decide +kernel) ?_
  refine lv_iconst (v := zI 0) hx hb dL_refused_9 (by decide +kernel) ?_
  refine lv_iconst (v := zI 0) hx hb dL_refused_10 (by decide +kernel) ?_
  obtain ⟨r54, s55, k56, hf⟩ := zb2_some hf
  refine ycSiW (As := [.ref q1, .int (zI 0), .int (zI (-1)), .int (zI 0), .int (zI 0)]) (rest := []) hx hb hml hown hts hl.1 hK (hX.kept hG.2.2.2.2.1) hNc hG.1 (yG_fw hG) hG.2.2.2 (c_L_call hst k56) zk_t3_31 zk_t3_32 zk_t1_0 zk_t3_33 hd_L_call rfl ⟨rfl, rfl, Nat.le_of_ble_eq_true rfl, Nat.le_of_ble_eq_true rfl⟩ ⟨Nat.le_of_ble_eq_true rfl, Nat.le_of_ble_eq_true rfl⟩ rfl (Nat.le_of_ble_eq_true rfl) dL_refused_11 (fun r u H locs hp hW9 hz hk9 hS => ?_)
  have hG := yG_w hG hW9 hp.2 hz hS
  have hr9 := hp.1
  subst hr9
  refine lv_ldc (v := zI (-2000000002)) hx hb hown (hts _ (show Cond.constant RL 20 (zI (-2000000002)) ∈ wsL_law from zk_t4_61)) dL_refused_14 ?_
  obtain ⟨k57, hf⟩ := zck_some hf
  refine lz_icmp_ne (tgt := 237) hx hb ⟨k57, by decide⟩ dL_refused_16 (by decide) (fun c58 => ?_) (fun c58 => ?_)
  · replace hf := (if_neg c58).symm.trans hf
    refine W.widen (Nat.le_of_ble_eq_true rfl) (Nat.le_of_ble_eq_true rfl) (J237 s55 r52 _ _ _ _ hG _ (lv_sub hl [1, 2, 0] rfl) hf)
  · replace hf := (if_pos c58).symm.trans hf
    refine lv_aload_n hx hb dL_refused_19 rfl (lv_at hl 1 rfl) ?_
    refine lv_iconst (v := zI 0) hx hb dL_refused_20 (by decide +kernel) ?_
    refine lv_iconst (v := zI 0) hx hb dL_refused_21 (by decide +kernel) ?_
    refine lv_iconst (v := zI 4) hx hb dL_refused_22 (by decide +kernel) ?_
    refine lv_iconst (v := zI 0) hx hb dL_refused_23 (by decide +kernel) ?_
    obtain ⟨r59, s60, k61, hf⟩ := zb2_some hf
    refine ycSiW (As := [.ref q1, .int (zI 0), .int (zI 0), .int (zI 4), .int (zI 0)]) (rest := []) hx hb hml hown hts hl.1 hK (hX.kept hG.2.2.2.2.1) hNc hG.1 (yG_fw hG) hG.2.2.2 (c_L_call hst k61) zk_t3_31 zk_t3_32 zk_t1_0 zk_t3_33 hd_L_call rfl ⟨rfl, rfl, Nat.le_of_ble_eq_true rfl, Nat.le_of_ble_eq_true rfl⟩ ⟨Nat.le_of_ble_eq_true rfl, Nat.le_of_ble_eq_true rfl⟩ rfl (Nat.le_of_ble_eq_true rfl) dL_refused_24 (fun r u H locs hp hW9 hz hk9 hS => ?_)
    have hG := yG_w hG hW9 hp.2 hz hS
    have hr9 := hp.1
    subst hr9
    refine lv_ldc (v := zI (-2000000002)) hx hb hown (hts _ (show Cond.constant RL 20 (zI (-2000000002)) ∈ wsL_law from zk_t4_61)) dL_refused_27 ?_
    obtain ⟨k62, hf⟩ := zck_some hf
    refine lz_icmp_ne (tgt := 237) hx hb ⟨k62, by decide⟩ dL_refused_29 (by decide) (fun c63 => ?_) (fun c63 => ?_)
    · replace hf := (if_neg c63).symm.trans hf
      refine W.widen (Nat.le_of_ble_eq_true rfl) (Nat.le_of_ble_eq_true rfl) (J237 s60 r52 _ _ _ _ hG _ (lv_sub hl [1, 2, 0] rfl) hf)
    · replace hf := (if_pos c63).symm.trans hf
      refine lv_aload_n hx hb dL_refused_32 rfl (lv_at hl 1 rfl) ?_
      refine lv_iconst (v := zI 1) hx hb dL_refused_33 (by decide +kernel) ?_
      refine lv_bipush (v := zI 8) hx hb dL_refused_34 (by decide +kernel) ?_
      refine lv_iconst (v := zI 0) hx hb dL_refused_36 (by decide +kernel) ?_
      refine lv_iconst (v := zI 0) hx hb dL_refused_37 (by decide +kernel) ?_
      obtain ⟨r64, s65, k66, hf⟩ := zb2_some hf
      refine ycSiW (As := [.ref q1, .int (zI 1), .int (zI 8), .int (zI 0), .int (zI 0)]) (rest := []) hx hb hml hown hts hl.1 hK (hX.kept hG.2.2.2.2.1) hNc hG.1 (yG_fw hG) hG.2.2.2 (c_L_call hst k66) zk_t3_31 zk_t3_32 zk_t1_0 zk_t3_33 hd_L_call rfl ⟨rfl, rfl, Nat.le_of_ble_eq_true rfl, Nat.le_of_ble_eq_true rfl⟩ ⟨Nat.le_of_ble_eq_true rfl, Nat.le_of_ble_eq_true rfl⟩ rfl (Nat.le_of_ble_eq_true rfl) dL_refused_38 (fun r u H locs hp hW9 hz hk9 hS => ?_)
      have hG := yG_w hG hW9 hp.2 hz hS
      have hr9 := hp.1
      subst hr9
      refine lv_ldc (v := zI (-2000000001)) hx hb hown (hts _ (show Cond.constant RL 17 (zI (-2000000001)) ∈ wsL_law from zk_t4_60)) dL_refused_41 ?_
      obtain ⟨k67, hf⟩ := zck_some hf
      refine lz_icmp_ne (tgt := 237) hx hb ⟨k67, by decide⟩ dL_refused_43 (by decide) (fun c68 => ?_) (fun c68 => ?_)
      · replace hf := (if_neg c68).symm.trans hf
        refine W.widen (Nat.le_of_ble_eq_true rfl) (Nat.le_of_ble_eq_true rfl) (J237 s65 r52 _ _ _ _ hG _ (lv_sub hl [1, 2, 0] rfl) hf)
      · replace hf := (if_pos c68).symm.trans hf
        refine lv_aload_n hx hb dL_refused_46 rfl (lv_at hl 1 rfl) ?_
        refine lv_iconst (v := zI 1) hx hb dL_refused_47 (by decide +kernel) ?_
        refine lv_iconst (v := zI (-1)) hx hb dL_refused_48 (by decide +kernel) ?_
        refine lv_iconst (v := zI 0) hx hb dL_refused_49 (by decide +kernel) ?_
        refine lv_iconst (v := zI 0) hx hb dL_refused_50 (by decide +kernel) ?_
        obtain ⟨r69, s70, k71, hf⟩ := zb2_some hf
        refine ycSiW (As := [.ref q1, .int (zI 1), .int (zI (-1)), .int (zI 0), .int (zI 0)]) (rest := []) hx hb hml hown hts hl.1 hK (hX.kept hG.2.2.2.2.1) hNc hG.1 (yG_fw hG) hG.2.2.2 (c_L_call hst k71) zk_t3_31 zk_t3_32 zk_t1_0 zk_t3_33 hd_L_call rfl ⟨rfl, rfl, Nat.le_of_ble_eq_true rfl, Nat.le_of_ble_eq_true rfl⟩ ⟨Nat.le_of_ble_eq_true rfl, Nat.le_of_ble_eq_true rfl⟩ rfl (Nat.le_of_ble_eq_true rfl) dL_refused_51 (fun r u H locs hp hW9 hz hk9 hS => ?_)
        have hG := yG_w hG hW9 hp.2 hz hS
        have hr9 := hp.1
        subst hr9
        refine lv_ldc (v := zI (-2000000001)) hx hb hown (hts _ (show Cond.constant RL 17 (zI (-2000000001)) ∈ wsL_law from zk_t4_60)) dL_refused_54 ?_
        obtain ⟨k72, hf⟩ := zck_some hf
        refine lz_icmp_ne (tgt := 237) hx hb ⟨k72, by decide⟩ dL_refused_56 (by decide) (fun c73 => ?_) (fun c73 => ?_)
        · replace hf := (if_neg c73).symm.trans hf
          refine W.widen (Nat.le_of_ble_eq_true rfl) (Nat.le_of_ble_eq_true rfl) (J237 s70 r52 _ _ _ _ hG _ (lv_sub hl [1, 2, 0] rfl) hf)
        · replace hf := (if_pos c73).symm.trans hf
          refine lv_aload_n hx hb dL_refused_59 rfl (lv_at hl 1 rfl) ?_
          refine lv_bipush (v := zI 8) hx hb dL_refused_60 (by decide +kernel) ?_
          refine lv_iconst (v := zI 1) hx hb dL_refused_62 (by decide +kernel) ?_
          refine lv_iconst (v := zI 1) hx hb dL_refused_63 (by decide +kernel) ?_
          refine lv_iconst (v := zI 0) hx hb dL_refused_64 (by decide +kernel) ?_
          refine lv_iconst (v := zI 0) hx hb dL_refused_65 (by decide +kernel) ?_
          refine lv_iconst (v := zI 0) hx hb dL_refused_66 (by decide +kernel) ?_
          obtain ⟨r74, s75, k76, hf⟩ := zb2_some hf
          refine ycSiW (As := [.ref q1, .int (zI 8), .int (zI 1), .int (zI 1), .int (zI 0), .int (zI 0), .int (zI 0)]) (rest := []) hx hb hml hown hts hl.1 hK (hX.kept hG.2.2.2.2.1) hNc hG.1 (yG_fw hG) hG.2.2.2 (c_L_sew hst k76) zk_t4_64 zk_t4_65 zk_t1_0 zk_t4_66 hd_L_sew rfl ⟨rfl, rfl, Nat.le_of_ble_eq_true rfl, Nat.le_of_ble_eq_true rfl⟩ ⟨Nat.le_of_ble_eq_true rfl, Nat.le_of_ble_eq_true rfl⟩ rfl (Nat.le_of_ble_eq_true rfl) dL_refused_67 (fun r u H locs hp hW9 hz hk9 hS => ?_)
          have hG := yG_w hG hW9 hp.2 hz hS
          have hr9 := hp.1
          subst hr9
          refine lv_ldc (v := zI (-2000000001)) hx hb hown (hts _ (show Cond.constant RL 17 (zI (-2000000001)) ∈ wsL_law from zk_t4_60)) dL_refused_70 ?_
          obtain ⟨k77, hf⟩ := zck_some hf
          refine lz_icmp_ne (tgt := 237) hx hb ⟨k77, by decide⟩ dL_refused_72 (by decide) (fun c78 => ?_) (fun c78 => ?_)
          · replace hf := (if_neg c78).symm.trans hf
            refine W.widen (Nat.le_of_ble_eq_true rfl) (Nat.le_of_ble_eq_true rfl) (J237 s75 r52 _ _ _ _ hG _ (lv_sub hl [1, 2, 0] rfl) hf)
          · replace hf := (if_pos c78).symm.trans hf
            refine lv_aload_n hx hb dL_refused_75 rfl (lv_at hl 1 rfl) ?_
            refine lv_iconst (v := zI 2) hx hb dL_refused_76 (by decide +kernel) ?_
            refine lv_bipush (v := zI 8) hx hb dL_refused_77 (by decide +kernel) ?_
            refine lv_bipush (v := zI 100) hx hb dL_refused_79 (by decide +kernel) ?_
            refine lv_iconst (v := zI 0) hx hb dL_refused_81 (by decide +kernel) ?_
            obtain ⟨r79, s80, k81, hf⟩ := zb2_some hf
            refine ycSiW (As := [.ref q1, .int (zI 2), .int (zI 8), .int (zI 100), .int (zI 0)]) (rest := []) hx hb hml hown hts hl.1 hK (hX.kept hG.2.2.2.2.1) hNc hG.1 (yG_fw hG) hG.2.2.2 (c_L_call hst k81) zk_t3_31 zk_t3_32 zk_t1_0 zk_t3_33 hd_L_call rfl ⟨rfl, rfl, Nat.le_of_ble_eq_true rfl, Nat.le_of_ble_eq_true rfl⟩ ⟨Nat.le_of_ble_eq_true rfl, Nat.le_of_ble_eq_true rfl⟩ rfl (Nat.le_of_ble_eq_true rfl) dL_refused_82 (fun r u H locs hp hW9 hz hk9 hS => ?_)
            have hG := yG_w hG hW9 hp.2 hz hS
            have hr9 := hp.1
            subst hr9
            refine lv_ldc (v := zI (-2000000001)) hx hb hown (hts _ (show Cond.constant RL 17 (zI (-2000000001)) ∈ wsL_law from zk_t4_60)) dL_refused_85 ?_
            obtain ⟨k82, hf⟩ := zck_some hf
            refine lz_icmp_ne (tgt := 237) hx hb ⟨k82, by decide⟩ dL_refused_87 (by decide) (fun c83 => ?_) (fun c83 => ?_)
            · replace hf := (if_neg c83).symm.trans hf
              refine W.widen (Nat.le_of_ble_eq_true rfl) (Nat.le_of_ble_eq_true rfl) (J237 s80 r52 _ _ _ _ hG _ (lv_sub hl [1, 2, 0] rfl) hf)
            · replace hf := (if_pos c83).symm.trans hf
              refine lv_aload_n hx hb dL_refused_90 rfl (lv_at hl 1 rfl) ?_
              refine lv_iconst (v := zI 3) hx hb dL_refused_91 (by decide +kernel) ?_
              refine lv_iconst (v := zI (-1)) hx hb dL_refused_92 (by decide +kernel) ?_
              refine lv_iconst (v := zI 0) hx hb dL_refused_93 (by decide +kernel) ?_
              refine lv_iconst (v := zI 0) hx hb dL_refused_94 (by decide +kernel) ?_
              obtain ⟨r84, s85, k86, hf⟩ := zb2_some hf
              refine ycSiW (As := [.ref q1, .int (zI 3), .int (zI (-1)), .int (zI 0), .int (zI 0)]) (rest := []) hx hb hml hown hts hl.1 hK (hX.kept hG.2.2.2.2.1) hNc hG.1 (yG_fw hG) hG.2.2.2 (c_L_call hst k86) zk_t3_31 zk_t3_32 zk_t1_0 zk_t3_33 hd_L_call rfl ⟨rfl, rfl, Nat.le_of_ble_eq_true rfl, Nat.le_of_ble_eq_true rfl⟩ ⟨Nat.le_of_ble_eq_true rfl, Nat.le_of_ble_eq_true rfl⟩ rfl (Nat.le_of_ble_eq_true rfl) dL_refused_95 (fun r u H locs hp hW9 hz hk9 hS => ?_)
              have hG := yG_w hG hW9 hp.2 hz hS
              have hr9 := hp.1
              subst hr9
              refine lv_ldc (v := zI (-2000000002)) hx hb hown (hts _ (show Cond.constant RL 20 (zI (-2000000002)) ∈ wsL_law from zk_t4_61)) dL_refused_98 ?_
              obtain ⟨k87, hf⟩ := zck_some hf
              refine lz_icmp_ne (tgt := 237) hx hb ⟨k87, by decide⟩ dL_refused_100 (by decide) (fun c88 => ?_) (fun c88 => ?_)
              · replace hf := (if_neg c88).symm.trans hf
                refine W.widen (Nat.le_of_ble_eq_true rfl) (Nat.le_of_ble_eq_true rfl) (J237 s85 r52 _ _ _ _ hG _ (lv_sub hl [1, 2, 0] rfl) hf)
              · replace hf := (if_pos c88).symm.trans hf
                refine lv_aload_n hx hb dL_refused_103 rfl (lv_at hl 1 rfl) ?_
                refine lv_iconst (v := zI 4) hx hb dL_refused_104 (by decide +kernel) ?_
                refine lv_aload_n hx hb dL_refused_105 rfl (lv_at hl 1 rfl) ?_
                obtain ⟨y89, ey89, hf⟩ := zlt_some hf
                refine ycVi (C := RX6) (As := []) (rest := [.int (zI 4), .ref q1]) hx hb hml hown hts hl.1 hK (hX.kept hG.2.2.2.2.1) hNc hG.1.1 (yG_f1 hG) hG.2.2.2 (yc_commands) zk_t1_189 zk_t1_190 zk_t1_191 zk_t1_1 zk_t1_192 hd_X6_commands rfl ⟨rfl, rfl, Nat.le_of_ble_eq_true rfl, Nat.le_of_ble_eq_true rfl⟩ ⟨Nat.le_of_ble_eq_true rfl, Nat.le_of_ble_eq_true rfl⟩ (yOb_recv hK hG.1.1) rfl (Nat.le_of_ble_eq_true rfl) dL_refused_106 (fun r F9 H locs hp hO hz hk9 hS => ?_)
                have hG := yG_1 hG hO hp.2 hz hk9 hS
                have hr9 := hp.1
                rw [← ey89] at hr9
                subst hr9
                refine lv_iconst (v := zI 0) hx hb dL_refused_109 (by decide +kernel) ?_
                refine lv_iconst (v := zI 0) hx hb dL_refused_110 (by decide +kernel) ?_
                obtain ⟨r90, s91, k92, hf⟩ := zb2_some hf
                refine ycSiW (As := [.ref q1, .int (zI 4), .int (zI y89), .int (zI 0), .int (zI 0)]) (rest := []) hx hb hml hown hts hl.1 hK (hX.kept hG.2.2.2.2.1) hNc hG.1 (yG_fw hG) hG.2.2.2 (c_L_call hst k92) zk_t3_31 zk_t3_32 zk_t1_0 zk_t3_33 hd_L_call rfl ⟨rfl, rfl, Nat.le_of_ble_eq_true rfl, Nat.le_of_ble_eq_true rfl⟩ ⟨Nat.le_of_ble_eq_true rfl, Nat.le_of_ble_eq_true rfl⟩ rfl (Nat.le_of_ble_eq_true rfl) dL_refused_111 (fun r u H locs hp hW9 hz hk9 hS => ?_)
                have hG := yG_w hG hW9 hp.2 hz hS
                have hr9 := hp.1
                subst hr9
                refine lv_ldc (v := zI (-2000000001)) hx hb hown (hts _ (show Cond.constant RL 17 (zI (-2000000001)) ∈ wsL_law from zk_t4_60)) dL_refused_114 ?_
                obtain ⟨k93, hf⟩ := zck_some hf
                refine lz_icmp_ne (tgt := 237) hx hb ⟨k93, by decide⟩ dL_refused_116 (by decide) (fun c94 => ?_) (fun c94 => ?_)
                · replace hf := (if_neg c94).symm.trans hf
                  refine W.widen (Nat.le_of_ble_eq_true rfl) (Nat.le_of_ble_eq_true rfl) (J237 s91 r52 _ _ _ _ hG _ (lv_sub hl [1, 2, 0] rfl) hf)
                · replace hf := (if_pos c94).symm.trans hf
                  refine lv_aload_n hx hb dL_refused_119 rfl (lv_at hl 1 rfl) ?_
                  refine lv_iconst (v := zI 4) hx hb dL_refused_120 (by decide +kernel) ?_
                  refine lv_iconst (v := zI 0) hx hb dL_refused_121 (by decide +kernel) ?_
                  refine lv_iconst (v := zI (-1)) hx hb dL_refused_122 (by decide +kernel) ?_
                  refine lv_iconst (v := zI 0) hx hb dL_refused_123 (by decide +kernel) ?_
                  obtain ⟨r95, s96, k97, hf⟩ := zb2_some hf
                  refine ycSiW (As := [.ref q1, .int (zI 4), .int (zI 0), .int (zI (-1)), .int (zI 0)]) (rest := []) hx hb hml hown hts hl.1 hK (hX.kept hG.2.2.2.2.1) hNc hG.1 (yG_fw hG) hG.2.2.2 (c_L_call hst k97) zk_t3_31 zk_t3_32 zk_t1_0 zk_t3_33 hd_L_call rfl ⟨rfl, rfl, Nat.le_of_ble_eq_true rfl, Nat.le_of_ble_eq_true rfl⟩ ⟨Nat.le_of_ble_eq_true rfl, Nat.le_of_ble_eq_true rfl⟩ rfl (Nat.le_of_ble_eq_true rfl) dL_refused_124 (fun r u H locs hp hW9 hz hk9 hS => ?_)
                  have hG := yG_w hG hW9 hp.2 hz hS
                  have hr9 := hp.1
                  subst hr9
                  refine lv_ldc (v := zI (-2000000002)) hx hb hown (hts _ (show Cond.constant RL 20 (zI (-2000000002)) ∈ wsL_law from zk_t4_61)) dL_refused_127 ?_
                  obtain ⟨k98, hf⟩ := zck_some hf
                  refine lz_icmp_ne (tgt := 237) hx hb ⟨k98, by decide⟩ dL_refused_129 (by decide) (fun c99 => ?_) (fun c99 => ?_)
                  · replace hf := (if_neg c99).symm.trans hf
                    refine W.widen (Nat.le_of_ble_eq_true rfl) (Nat.le_of_ble_eq_true rfl) (J237 s96 r52 _ _ _ _ hG _ (lv_sub hl [1, 2, 0] rfl) hf)
                  · replace hf := (if_pos c99).symm.trans hf
                    refine lv_aload_n hx hb dL_refused_132 rfl (lv_at hl 1 rfl) ?_
                    refine lv_iconst (v := zI 5) hx hb dL_refused_133 (by decide +kernel) ?_
                    refine lv_iconst (v := zI (-1)) hx hb dL_refused_134 (by decide +kernel) ?_
                    refine lv_iconst (v := zI 0) hx hb dL_refused_135 (by decide +kernel) ?_
                    refine lv_iconst (v := zI 0) hx hb dL_refused_136 (by decide +kernel) ?_
                    obtain ⟨r100, s101, k102, hf⟩ := zb2_some hf
                    refine ycSiW (As := [.ref q1, .int (zI 5), .int (zI (-1)), .int (zI 0), .int (zI 0)]) (rest := []) hx hb hml hown hts hl.1 hK (hX.kept hG.2.2.2.2.1) hNc hG.1 (yG_fw hG) hG.2.2.2 (c_L_call hst k102) zk_t3_31 zk_t3_32 zk_t1_0 zk_t3_33 hd_L_call rfl ⟨rfl, rfl, Nat.le_of_ble_eq_true rfl, Nat.le_of_ble_eq_true rfl⟩ ⟨Nat.le_of_ble_eq_true rfl, Nat.le_of_ble_eq_true rfl⟩ rfl (Nat.le_of_ble_eq_true rfl) dL_refused_137 (fun r u H locs hp hW9 hz hk9 hS => ?_)
                    have hG := yG_w hG hW9 hp.2 hz hS
                    have hr9 := hp.1
                    subst hr9
                    refine lv_ldc (v := zI (-2000000002)) hx hb hown (hts _ (show Cond.constant RL 20 (zI (-2000000002)) ∈ wsL_law from zk_t4_61)) dL_refused_140 ?_
                    obtain ⟨k103, hf⟩ := zck_some hf
                    refine lz_icmp_ne (tgt := 237) hx hb ⟨k103, by decide⟩ dL_refused_142 (by decide) (fun c104 => ?_) (fun c104 => ?_)
                    · replace hf := (if_neg c104).symm.trans hf
                      refine W.widen (Nat.le_of_ble_eq_true rfl) (Nat.le_of_ble_eq_true rfl) (J237 s101 r52 _ _ _ _ hG _ (lv_sub hl [1, 2, 0] rfl) hf)
                    · replace hf := (if_pos c104).symm.trans hf
                      refine lv_aload_n hx hb dL_refused_145 rfl (lv_at hl 1 rfl) ?_
                      refine lv_bipush (v := zI 6) hx hb dL_refused_146 (by decide +kernel) ?_
                      refine lv_bipush (v := zI 6) hx hb dL_refused_148 (by decide +kernel) ?_
                      refine lv_iconst (v := zI 0) hx hb dL_refused_150 (by decide +kernel) ?_
                      refine lv_iconst (v := zI 0) hx hb dL_refused_151 (by decide +kernel) ?_
                      obtain ⟨r105, s106, k107, hf⟩ := zb2_some hf
                      refine ycSiW (As := [.ref q1, .int (zI 6), .int (zI 6), .int (zI 0), .int (zI 0)]) (rest := []) hx hb hml hown hts hl.1 hK (hX.kept hG.2.2.2.2.1) hNc hG.1 (yG_fw hG) hG.2.2.2 (c_L_call hst k107) zk_t3_31 zk_t3_32 zk_t1_0 zk_t3_33 hd_L_call rfl ⟨rfl, rfl, Nat.le_of_ble_eq_true rfl, Nat.le_of_ble_eq_true rfl⟩ ⟨Nat.le_of_ble_eq_true rfl, Nat.le_of_ble_eq_true rfl⟩ rfl (Nat.le_of_ble_eq_true rfl) dL_refused_152 (fun r u H locs hp hW9 hz hk9 hS => ?_)
                      have hG := yG_w hG hW9 hp.2 hz hS
                      have hr9 := hp.1
                      subst hr9
                      refine lv_ldc (v := zI (-2000000002)) hx hb hown (hts _ (show Cond.constant RL 20 (zI (-2000000002)) ∈ wsL_law from zk_t4_61)) dL_refused_155 ?_
                      obtain ⟨k108, hf⟩ := zck_some hf
                      refine lz_icmp_ne (tgt := 237) hx hb ⟨k108, by decide⟩ dL_refused_157 (by decide) (fun c109 => ?_) (fun c109 => ?_)
                      · replace hf := (if_neg c109).symm.trans hf
                        refine W.widen (Nat.le_of_ble_eq_true rfl) (Nat.le_of_ble_eq_true rfl) (J237 s106 r52 _ _ _ _ hG _ (lv_sub hl [1, 2, 0] rfl) hf)
                      · replace hf := (if_pos c109).symm.trans hf
                        refine lv_aload_n hx hb dL_refused_160 rfl (lv_at hl 1 rfl) ?_
                        refine lv_bipush (v := zI 7) hx hb dL_refused_161 (by decide +kernel) ?_
                        refine lv_bipush (v := zI 8) hx hb dL_refused_163 (by decide +kernel) ?_
                        refine lv_iconst (v := zI 0) hx hb dL_refused_165 (by decide +kernel) ?_
                        refine lv_iconst (v := zI 0) hx hb dL_refused_166 (by decide +kernel) ?_
                        obtain ⟨r110, s111, k112, hf⟩ := zb2_some hf
                        refine ycSiW (As := [.ref q1, .int (zI 7), .int (zI 8), .int (zI 0), .int (zI 0)]) (rest := []) hx hb hml hown hts hl.1 hK (hX.kept hG.2.2.2.2.1) hNc hG.1 (yG_fw hG) hG.2.2.2 (c_L_call hst k112) zk_t3_31 zk_t3_32 zk_t1_0 zk_t3_33 hd_L_call rfl ⟨rfl, rfl, Nat.le_of_ble_eq_true rfl, Nat.le_of_ble_eq_true rfl⟩ ⟨Nat.le_of_ble_eq_true rfl, Nat.le_of_ble_eq_true rfl⟩ rfl (Nat.le_of_ble_eq_true rfl) dL_refused_167 (fun r u H locs hp hW9 hz hk9 hS => ?_)
                        have hG := yG_w hG hW9 hp.2 hz hS
                        have hr9 := hp.1
                        subst hr9
                        refine lv_ldc (v := zI (-2000000001)) hx hb hown (hts _ (show Cond.constant RL 17 (zI (-2000000001)) ∈ wsL_law from zk_t4_60)) dL_refused_170 ?_
                        obtain ⟨k113, hf⟩ := zck_some hf
                        refine lz_icmp_ne (tgt := 237) hx hb ⟨k113, by decide⟩ dL_refused_172 (by decide) (fun c114 => ?_) (fun c114 => ?_)
                        · replace hf := (if_neg c114).symm.trans hf
                          refine W.widen (Nat.le_of_ble_eq_true rfl) (Nat.le_of_ble_eq_true rfl) (J237 s111 r52 _ _ _ _ hG _ (lv_sub hl [1, 2, 0] rfl) hf)
                        · replace hf := (if_pos c114).symm.trans hf
                          refine lv_aload_n hx hb dL_refused_175 rfl (lv_at hl 1 rfl) ?_
                          refine lv_bipush (v := zI 8) hx hb dL_refused_176 (by decide +kernel) ?_
                          refine lv_iconst (v := zI (-1)) hx hb dL_refused_178 (by decide +kernel) ?_
                          refine lv_iconst (v := zI 0) hx hb dL_refused_179 (by decide +kernel) ?_
                          refine lv_iconst (v := zI 0) hx hb dL_refused_180 (by decide +kernel) ?_
                          obtain ⟨r115, s116, k117, hf⟩ := zb2_some hf
                          refine ycSiW (As := [.ref q1, .int (zI 8), .int (zI (-1)), .int (zI 0), .int (zI 0)]) (rest := []) hx hb hml hown hts hl.1 hK (hX.kept hG.2.2.2.2.1) hNc hG.1 (yG_fw hG) hG.2.2.2 (c_L_call hst k117) zk_t3_31 zk_t3_32 zk_t1_0 zk_t3_33 hd_L_call rfl ⟨rfl, rfl, Nat.le_of_ble_eq_true rfl, Nat.le_of_ble_eq_true rfl⟩ ⟨Nat.le_of_ble_eq_true rfl, Nat.le_of_ble_eq_true rfl⟩ rfl (Nat.le_of_ble_eq_true rfl) dL_refused_181 (fun r u H locs hp hW9 hz hk9 hS => ?_)
                          have hG := yG_w hG hW9 hp.2 hz hS
                          have hr9 := hp.1
                          subst hr9
                          refine lv_ldc (v := zI (-2000000001)) hx hb hown (hts _ (show Cond.constant RL 17 (zI (-2000000001)) ∈ wsL_law from zk_t4_60)) dL_refused_184 ?_
                          obtain ⟨k118, hf⟩ := zck_some hf
                          refine lz_icmp_ne (tgt := 237) hx hb ⟨k118, by decide⟩ dL_refused_186 (by decide) (fun c119 => ?_) (fun c119 => ?_)
                          · replace hf := (if_neg c119).symm.trans hf
                            refine W.widen (Nat.le_of_ble_eq_true rfl) (Nat.le_of_ble_eq_true rfl) (J237 s116 r52 _ _ _ _ hG _ (lv_sub hl [1, 2, 0] rfl) hf)
                          · replace hf := (if_pos c119).symm.trans hf
                            refine lv_aload_n hx hb dL_refused_189 rfl (lv_at hl 1 rfl) ?_
                            refine lv_bipush (v := zI 9) hx hb dL_refused_190 (by decide +kernel) ?_
                            refine lv_iconst (v := zI (-1)) hx hb dL_refused_192 (by decide +kernel) ?_
                            refine lv_iconst (v := zI 0) hx hb dL_refused_193 (by decide +kernel) ?_
                            refine lv_iconst (v := zI 0) hx hb dL_refused_194 (by decide +kernel) ?_
                            obtain ⟨r120, s121, k122, hf⟩ := zb2_some hf
                            refine ycSiW (As := [.ref q1, .int (zI 9), .int (zI (-1)), .int (zI 0), .int (zI 0)]) (rest := []) hx hb hml hown hts hl.1 hK (hX.kept hG.2.2.2.2.1) hNc hG.1 (yG_fw hG) hG.2.2.2 (c_L_call hst k122) zk_t3_31 zk_t3_32 zk_t1_0 zk_t3_33 hd_L_call rfl ⟨rfl, rfl, Nat.le_of_ble_eq_true rfl, Nat.le_of_ble_eq_true rfl⟩ ⟨Nat.le_of_ble_eq_true rfl, Nat.le_of_ble_eq_true rfl⟩ rfl (Nat.le_of_ble_eq_true rfl) dL_refused_195 (fun r u H locs hp hW9 hz hk9 hS => ?_)
                            have hG := yG_w hG hW9 hp.2 hz hS
                            have hr9 := hp.1
                            subst hr9
                            refine lv_ldc (v := zI (-2000000002)) hx hb hown (hts _ (show Cond.constant RL 20 (zI (-2000000002)) ∈ wsL_law from zk_t4_61)) dL_refused_198 ?_
                            obtain ⟨k123, hf⟩ := zck_some hf
                            refine lz_icmp_ne (tgt := 237) hx hb ⟨k123, by decide⟩ dL_refused_200 (by decide) (fun c124 => ?_) (fun c124 => ?_)
                            · replace hf := (if_neg c124).symm.trans hf
                              refine W.widen (Nat.le_of_ble_eq_true rfl) (Nat.le_of_ble_eq_true rfl) (J237 s121 r52 _ _ _ _ hG _ (lv_sub hl [1, 2, 0] rfl) hf)
                            · replace hf := (if_pos c124).symm.trans hf
                              refine lv_aload_n hx hb dL_refused_203 rfl (lv_at hl 1 rfl) ?_
                              refine lv_bipush (v := zI 10) hx hb dL_refused_204 (by decide +kernel) ?_
                              refine lv_iconst (v := zI (-1)) hx hb dL_refused_206 (by decide +kernel) ?_
                              refine lv_iconst (v := zI 0) hx hb dL_refused_207 (by decide +kernel) ?_
                              refine lv_iconst (v := zI 0) hx hb dL_refused_208 (by decide +kernel) ?_
                              obtain ⟨r125, s126, k127, hf⟩ := zb2_some hf
                              refine ycSiW (As := [.ref q1, .int (zI 10), .int (zI (-1)), .int (zI 0), .int (zI 0)]) (rest := []) hx hb hml hown hts hl.1 hK (hX.kept hG.2.2.2.2.1) hNc hG.1 (yG_fw hG) hG.2.2.2 (c_L_call hst k127) zk_t3_31 zk_t3_32 zk_t1_0 zk_t3_33 hd_L_call rfl ⟨rfl, rfl, Nat.le_of_ble_eq_true rfl, Nat.le_of_ble_eq_true rfl⟩ ⟨Nat.le_of_ble_eq_true rfl, Nat.le_of_ble_eq_true rfl⟩ rfl (Nat.le_of_ble_eq_true rfl) dL_refused_209 (fun r u H locs hp hW9 hz hk9 hS => ?_)
                              have hG := yG_w hG hW9 hp.2 hz hS
                              have hr9 := hp.1
                              subst hr9
                              refine lv_ldc (v := zI (-2000000001)) hx hb hown (hts _ (show Cond.constant RL 17 (zI (-2000000001)) ∈ wsL_law from zk_t4_60)) dL_refused_212 ?_
                              obtain ⟨k128, hf⟩ := zck_some hf
                              refine lz_icmp_ne (tgt := 237) hx hb ⟨k128, by decide⟩ dL_refused_214 (by decide) (fun c129 => ?_) (fun c129 => ?_)
                              · replace hf := (if_neg c129).symm.trans hf
                                refine W.widen (Nat.le_of_ble_eq_true rfl) (Nat.le_of_ble_eq_true rfl) (J237 s126 r52 _ _ _ _ hG _ (lv_sub hl [1, 2, 0] rfl) hf)
                              · replace hf := (if_pos c129).symm.trans hf
                                refine lv_aload_n hx hb dL_refused_217 rfl (lv_at hl 1 rfl) ?_
                                refine lv_bipush (v := zI 10) hx hb dL_refused_218 (by decide +kernel) ?_
                                refine lv_aload_n hx hb dL_refused_220 rfl (lv_at hl 2 rfl) ?_
                                refine lv_iconst (v := zI 2) hx hb dL_refused_221 (by decide +kernel) ?_
                                refine ygld hx hb hK hG (by decide) dL_refused_222 ?_
                                refine lv_iconst (v := zI 0) hx hb dL_refused_223 (by decide +kernel) ?_
                                refine lv_iconst (v := zI 0) hx hb dL_refused_224 (by decide +kernel) ?_
                                obtain ⟨r130, s131, k132, hf⟩ := zb2_some hf
                                refine ycSiW (As := [.ref q1, .int (zI 10), .int (zI (dv 2)), .int (zI 0), .int (zI 0)]) (rest := []) hx hb hml hown hts hl.1 hK (hX.kept hG.2.2.2.2.1) hNc hG.1 (yG_fw hG) hG.2.2.2 (c_L_call hst k132) zk_t3_31 zk_t3_32 zk_t1_0 zk_t3_33 hd_L_call rfl ⟨rfl, rfl, Nat.le_of_ble_eq_true rfl, Nat.le_of_ble_eq_true rfl⟩ ⟨Nat.le_of_ble_eq_true rfl, Nat.le_of_ble_eq_true rfl⟩ rfl (Nat.le_of_ble_eq_true rfl) dL_refused_225 (fun r u H locs hp hW9 hz hk9 hS => ?_)
                                have hG := yG_w hG hW9 hp.2 hz hS
                                have hr9 := hp.1
                                subst hr9
                                refine lv_ldc (v := zI (-2000000001)) hx hb hown (hts _ (show Cond.constant RL 17 (zI (-2000000001)) ∈ wsL_law from zk_t4_60)) dL_refused_228 ?_
                                obtain ⟨k133, hf⟩ := zck_some hf
                                refine lz_icmp_ne (tgt := 237) hx hb ⟨k133, by decide⟩ dL_refused_230 (by decide) (fun c134 => ?_) (fun c134 => ?_)
                                · replace hf := (if_neg c134).symm.trans hf
                                  refine W.widen (Nat.le_of_ble_eq_true rfl) (Nat.le_of_ble_eq_true rfl) (J237 s131 r52 _ _ _ _ hG _ (lv_sub hl [1, 2, 0] rfl) hf)
                                · replace hf := (if_pos c134).symm.trans hf
                                  refine lv_iconst (v := zI 1) hx hb dL_refused_233 (by decide +kernel) ?_
                                  refine lv_goto (tgt := 238) hx hb dL_refused_234 (by decide) ?_
                                  refine W.widen (Nat.le_of_ble_eq_true rfl) (Nat.le_of_ble_eq_true rfl) (J238 s131 r52 1 _ _ _ _ hG _ (lv_sub hl [1, 2, 0] rfl) hf)
