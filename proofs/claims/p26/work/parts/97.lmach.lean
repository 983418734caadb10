abbrev rmL_machine : Room := { frames := 11, cells := 21, slots := 12594, locals := 264 }
theorem hd_L_machine : yL_machine.cls ≠ "java/lang/invoke/MethodHandle" ∧ yL_machine.cls ≠ "java/lang/invoke/VarHandle" ∧ (parseMethodDescriptor yL_machine.desc).map (fun d => d.parameters.length) = some 5 := by decide +kernel
set_option maxHeartbeats 4000000 in
set_option maxRecDepth 100000 in
theorem c_L_machine {l : Launch} (hst : l.stackTraces = false) {D : va_G} {cI cZ cF cL cD : ClassId} {q1 q2 qd sz : Nat} {E1 E2 : Nat → Prop} {S1 : yS} {S2 : yS} {dv : Int → Int} {p3 : Int} {p4 : Int} {R0 : Int} {R_S1 : yS} {R_S2 : yS} {R_dv : Int → Int} (hf : f_L_machine S1 S2 dv p3 p4 = some (R0, R_S1, R_S2, R_dv)) :
    Met l yL_machine (Cond.code yL_machine cL_machine 11 (some .boolean) :: wsL_law) rmL_machine (yPc D (zT cI cZ cF cL cD) sz (yA E1 E2 qd sz) (yW D cI cZ cF q1 E1 S1 q2 E2 S2 qd dv) [.ref q1, .ref q2, .ref qd, .int (zI p3), .int (zI p4)]) (yQLi D cI cZ cF q1 E1 q2 E2 qd sz (fun r => r = zI R0) R_S1 R_S2 R_dv) 21 12594 (yA E1 E2 qd sz) := by
  refine yMet0 (by decide) (Nat.le_of_ble_eq_true rfl) ?_
  intro p e s m args below meth c Q hx hb hr hlocks hml hown hts hK hX hNc hsz hQ hW9 hS9 ls hl
  subst hsz
  have hG := yG_in hW9 hS9
  have hl : lv_has ls 11 [(0, .ref q1), (1, .ref q2), (2, .ref qd), (3, .int (zI p3)), (4, .int (zI p4))] := hl
  have J386 : ∀ (S1 : yS) (S2 : yS) (dv : Int → Int) (F1 F2 : Nat → Prop) (H : Heap) (locs : List Loc) (hG : yG D cI cZ cF q1 F1 S1 q2 F2 S2 qd dv E1 E2 s.heap H locs) (ls : Array Slot) (hl : lv_has ls 11 []), f_L_machine_386 S1 S2 dv = some (R0, R_S1, R_S2, R_dv) → W p l e rmL_machine s m args below meth c H locs 14 8396 Q (F0 m 386 ls []) := by
    intro S1 S2 dv F1 F2 H locs hG ls hl hf
    unfold f_L_machine_386 at hf
    refine lv_iconst (v := zI 1) hx hb dL_machine_386 (by decide +kernel) ?_
    refine lv_goto (tgt := 391) hx hb dL_machine_387 (by decide) ?_
    cases hf
    exact yretz hx hb hr hlocks hQ hG rfl ⟨Nat.le_of_ble_eq_true rfl, Nat.le_of_ble_eq_true rfl⟩ (z_nar _ (Or.inr rfl)) dL_machine_391
  have J315 : ∀ (S1 : yS) (S2 : yS) (dv : Int → Int) (x6 : Int) (x7 : Int) (s0 : Int) (s1 : Int) (F1 F2 : Nat → Prop) (H : Heap) (locs : List Loc) (hG : yG D cI cZ cF q1 F1 S1 q2 F2 S2 qd dv E1 E2 s.heap H locs) (ls : Array Slot) (hl : lv_has ls 11 [(0, .ref q1), (6, .int (zI x6)), (7, .int (zI x7))]), f_L_machine_315 S1 S2 dv x6 x7 s0 s1 = some (R0, R_S1, R_S2, R_dv) → W p l e rmL_machine s m args below meth c H locs 14 8396 Q (F0 m 315 ls [.int (zI s1), .int (zI s0)]) := by
    intro S1 S2 dv x6 x7 s0 s1 F1 F2 H locs hG ls hl hf
    unfold f_L_machine_315 at hf
    obtain ⟨k1, hf⟩ := zck_some hf
    refine lz_icmp_ne (tgt := 333) hx hb k1 dL_machine_315 (by decide) (fun c2 => ?_) (fun c2 => ?_)
    · replace hf := (if_neg c2).symm.trans hf
      refine lv_iconst (v := zI 0) hx hb dL_machine_333 (by decide +kernel) ?_
      cases hf
      exact yretz hx hb hr hlocks hQ hG rfl ⟨Nat.le_of_ble_eq_true rfl, Nat.le_of_ble_eq_true rfl⟩ (z_nar _ (Or.inl rfl)) dL_machine_334
    · replace hf := (if_pos c2).symm.trans hf
      refine lv_aload_n hx hb dL_machine_318 rfl (lv_at hl 0 rfl) ?_
      refine lv_iload hx hb dL_machine_319 (lv_at hl 1 rfl) ?_
      obtain ⟨k3, hf⟩ := zck_some hf
      obtain ⟨y4, ey4, hf⟩ := zlt_some hf
      obtain ⟨k5, hf⟩ := zck_some hf
      refine ycVi (C := RX6) (As := [.int (zI x6)]) (rest := []) hx hb hml hown hts hl.1 hK (hX.kept hG.2.2.2.2.1) hNc hG.1.1 (yG_f1 hG) hG.2.2.2 (yn_sewn k3 (by rw [← ey4]; exact k5)) zk_t2_214 zk_t2_215 zk_t2_216 zk_t1_1 zk_t2_217 hd_X6_sewn rfl ⟨rfl, rfl, Nat.le_of_ble_eq_true rfl, Nat.le_of_ble_eq_true rfl⟩ ⟨Nat.le_of_ble_eq_true rfl, Nat.le_of_ble_eq_true rfl⟩ (yOb_recv hK hG.1.1) rfl (Nat.le_of_ble_eq_true rfl) dL_machine_321 (fun r F9 H locs hp hO hz hk9 hS => ?_)
      have hG := yG_1 hG hO hp.2 hz hk9 hS
      have hr9 := hp.1
      rw [← ey4] at hr9
      subst hr9
      refine lv_iload hx hb dL_machine_324 (lv_at hl 2 rfl) ?_
      obtain ⟨k6, hf⟩ := zck_some hf
      refine lz_icmp_ne (tgt := 333) hx hb k6 dL_machine_326 (by decide) (fun c7 => ?_) (fun c7 => ?_)
      · replace hf := (if_neg c7).symm.trans hf
        refine lv_iconst (v := zI 0) hx hb dL_machine_333 (by decide +kernel) ?_
        cases hf
        exact yretz hx hb hr hlocks hQ hG rfl ⟨Nat.le_of_ble_eq_true rfl, Nat.le_of_ble_eq_true rfl⟩ (z_nar _ (Or.inl rfl)) dL_machine_334
      · replace hf := (if_pos c7).symm.trans hf
        refine lv_iconst (v := zI 1) hx hb dL_machine_329 (by decide +kernel) ?_
        refine lv_goto (tgt := 334) hx hb dL_machine_330 (by decide) ?_
        cases hf
        exact yretz hx hb hr hlocks hQ hG rfl ⟨Nat.le_of_ble_eq_true rfl, Nat.le_of_ble_eq_true rfl⟩ (z_nar _ (Or.inr rfl)) dL_machine_334
  have J301 : ∀ (S1 : yS) (S2 : yS) (dv : Int → Int) (x6 : Int) (x7 : Int) (x8 : Int) (x9 : Int) (s1 : Int) (s2 : Int) (F1 F2 : Nat → Prop) (H : Heap) (locs : List Loc) (hG : yG D cI cZ cF q1 F1 S1 q2 F2 S2 qd dv E1 E2 s.heap H locs) (ls : Array Slot) (hl : lv_has ls 11 [(0, .ref q1), (6, .int (zI x6)), (7, .int (zI x7)), (8, .int (zI x8)), (9, .int (zI x9))]), f_L_machine_301 S1 S2 dv x6 x7 x8 x9 s1 s2 = some (R0, R_S1, R_S2, R_dv) → W p l e rmL_machine s m args below meth c H locs 14 8396 Q (F0 m 301 ls [.int (zI s2), .int (zI s1), .ref qd]) := by
    intro S1 S2 dv x6 x7 x8 x9 s1 s2 F1 F2 H locs hG ls hl hf
    unfold f_L_machine_301 at hf
    obtain ⟨k8, hf⟩ := zck_some hf
    obtain ⟨a9, ea9, hf⟩ := zlt_some hf
    refine ygst hx hb hK hG k8 dL_machine_301 (fun H locs hG => ?_)
    rw [← ea9] at hG
    refine lv_iload hx hb dL_machine_302 (lv_at hl 3 rfl) ?_
    refine lv_iload hx hb dL_machine_304 (lv_at hl 4 rfl) ?_
    obtain ⟨k10, hf⟩ := zck_some hf
    refine lz_if_eq (tgt := 313) hx hb k10 dL_machine_306 (by decide) (fun c11 => ?_) (fun c11 => ?_)
    · replace hf := (if_pos c11).symm.trans hf
      refine lv_ldc (v := zI (-2000000003)) hx hb hown (hts _ (show Cond.constant RL 23 (zI (-2000000003)) ∈ wsL_law from zk_t4_62)) dL_machine_313 ?_
      refine W.widen (Nat.le_of_ble_eq_true rfl) (Nat.le_of_ble_eq_true rfl) (J315 S1 S2 a9 x6 x7 x8 (-2000000003) _ _ _ _ hG _ (lv_sub hl [0, 1, 2] rfl) hf)
    · replace hf := (if_neg c11).symm.trans hf
      refine lv_iconst (v := zI 0) hx hb dL_machine_309 (by decide +kernel) ?_
      refine lv_goto (tgt := 315) hx hb dL_machine_310 (by decide) ?_
      refine W.widen (Nat.le_of_ble_eq_true rfl) (Nat.le_of_ble_eq_true rfl) (J315 S1 S2 a9 x6 x7 x8 0 _ _ _ _ hG _ (lv_sub hl [0, 1, 2] rfl) hf)
  have J275 : ∀ (S1 : yS) (S2 : yS) (dv : Int → Int) (x6 : Int) (x7 : Int) (x8 : Int) (s0 : Int) (F1 F2 : Nat → Prop) (H : Heap) (locs : List Loc) (hG : yG D cI cZ cF q1 F1 S1 q2 F2 S2 qd dv E1 E2 s.heap H locs) (ls : Array Slot) (hl : lv_has ls 11 [(0, .ref q1), (2, .ref qd), (6, .int (zI x6)), (7, .int (zI x7)), (8, .int (zI x8))]), f_L_machine_275 S1 S2 dv x6 x7 x8 s0 = some (R0, R_S1, R_S2, R_dv) → W p l e rmL_machine s m args below meth c H locs 14 8396 Q (F0 m 275 ls [.int (zI s0)]) := by
    intro S1 S2 dv x6 x7 x8 s0 F1 F2 H locs hG ls hl hf
    unfold f_L_machine_275 at hf
    refine lv_istore (lv' := [(9, .int (zI s0)), (0, .ref q1), (2, .ref qd), (6, .int (zI x6)), (7, .int (zI x7)), (8, .int (zI x8))]) hx hb dL_machine_275 hl (by decide) rfl (fun ls hl => ?_)
    refine lv_aload_n hx hb dL_machine_277 rfl (lv_at hl 2 rfl) ?_
    refine lv_bipush (v := zI 22) hx hb dL_machine_278 (by decide +kernel) ?_
    refine lv_iload hx hb dL_machine_280 (lv_at hl 3 rfl) ?_
    refine lz_iadd hx hb dL_machine_282 ?_
    refine lv_iload hx hb dL_machine_283 (lv_at hl 0 rfl) ?_
    obtain ⟨k12, hf⟩ := zck_some hf
    refine lz_if_eq (tgt := 294) hx hb k12 dL_machine_285 (by decide) (fun c13 => ?_) (fun c13 => ?_)
    · replace hf := (if_pos c13).symm.trans hf
      refine lv_aload_n hx hb dL_machine_294 rfl (lv_at hl 2 rfl) ?_
      refine lv_bipush (v := zI 22) hx hb dL_machine_295 (by decide +kernel) ?_
      refine lv_iload hx hb dL_machine_297 (lv_at hl 3 rfl) ?_
      refine lz_iadd hx hb dL_machine_299 ?_
      obtain ⟨k14, hf⟩ := zck_some hf
      refine ygld hx hb hK hG k14 dL_machine_300 ?_
      refine W.widen (Nat.le_of_ble_eq_true rfl) (Nat.le_of_ble_eq_true rfl) (J301 S1 S2 dv x6 x7 x8 s0 (22 + x6) (dv (22 + x6)) _ _ _ _ hG _ (lv_sub hl [1, 3, 4, 5, 0] rfl) hf)
    · replace hf := (if_neg c13).symm.trans hf
      refine lv_aload_n hx hb dL_machine_288 rfl (lv_at hl 2 rfl) ?_
      refine lv_iconst (v := zI 5) hx hb dL_machine_289 (by decide +kernel) ?_
      refine ygld hx hb hK hG (by decide) dL_machine_290 ?_
      refine lv_goto (tgt := 301) hx hb dL_machine_291 (by decide) ?_
      refine W.widen (Nat.le_of_ble_eq_true rfl) (Nat.le_of_ble_eq_true rfl) (J301 S1 S2 dv x6 x7 x8 s0 (22 + x6) (dv 5) _ _ _ _ hG _ (lv_sub hl [1, 3, 4, 5, 0] rfl) hf)
  have J218 : ∀ (S1 : yS) (S2 : yS) (dv : Int → Int) (x6 : Int) (x7 : Int) (s0 : Int) (s1 : Int) (s2 : Int) (F1 F2 : Nat → Prop) (H : Heap) (locs : List Loc) (hG : yG D cI cZ cF q1 F1 S1 q2 F2 S2 qd dv E1 E2 s.heap H locs) (ls : Array Slot) (hl : lv_has ls 11 [(0, .ref q1), (6, .int (zI x6)), (7, .int (zI x7))]), f_L_machine_218 S1 S2 dv x6 x7 s0 s1 s2 = some (R0, R_S1, R_S2, R_dv) → W p l e rmL_machine s m args below meth c H locs 14 8396 Q (F0 m 218 ls [.int (zI s2), .int (zI s1), .int (zI s0)]) := by
    intro S1 S2 dv x6 x7 s0 s1 s2 F1 F2 H locs hG ls hl hf
    unfold f_L_machine_218 at hf
    refine lz_iadd hx hb dL_machine_218 ?_
    obtain ⟨k15, hf⟩ := zck_some hf
    refine lz_icmp_gt (tgt := 237) hx hb k15 dL_machine_219 (by decide) (fun c16 => ?_) (fun c16 => ?_)
    · replace hf := (if_pos c16).symm.trans hf
      refine lv_iconst (v := zI 0) hx hb dL_machine_237 (by decide +kernel) ?_
      cases hf
      exact yretz hx hb hr hlocks hQ hG rfl ⟨Nat.le_of_ble_eq_true rfl, Nat.le_of_ble_eq_true rfl⟩ (z_nar _ (Or.inl rfl)) dL_machine_238
    · replace hf := (if_neg c16).symm.trans hf
      refine lv_aload_n hx hb dL_machine_222 rfl (lv_at hl 0 rfl) ?_
      refine lv_iload hx hb dL_machine_223 (lv_at hl 1 rfl) ?_
      obtain ⟨k17, hf⟩ := zck_some hf
      obtain ⟨y18, ey18, hf⟩ := zlt_some hf
      obtain ⟨k19, hf⟩ := zck_some hf
      refine ycVi (C := RX6) (As := [.int (zI x6)]) (rest := []) hx hb hml hown hts hl.1 hK (hX.kept hG.2.2.2.2.1) hNc hG.1.1 (yG_f1 hG) hG.2.2.2 (yn_sewn k17 (by rw [← ey18]; exact k19)) zk_t2_214 zk_t2_215 zk_t2_216 zk_t1_1 zk_t2_217 hd_X6_sewn rfl ⟨rfl, rfl, Nat.le_of_ble_eq_true rfl, Nat.le_of_ble_eq_true rfl⟩ ⟨Nat.le_of_ble_eq_true rfl, Nat.le_of_ble_eq_true rfl⟩ (yOb_recv hK hG.1.1) rfl (Nat.le_of_ble_eq_true rfl) dL_machine_225 (fun r F9 H locs hp hO hz hk9 hS => ?_)
      have hG := yG_1 hG hO hp.2 hz hk9 hS
      have hr9 := hp.1
      rw [← ey18] at hr9
      subst hr9
      refine lv_iload hx hb dL_machine_228 (lv_at hl 2 rfl) ?_
      obtain ⟨k20, hf⟩ := zck_some hf
      refine lz_icmp_lt (tgt := 237) hx hb k20 dL_machine_230 (by decide) (fun c21 => ?_) (fun c21 => ?_)
      · replace hf := (if_pos c21).symm.trans hf
        refine lv_iconst (v := zI 0) hx hb dL_machine_237 (by decide +kernel) ?_
        cases hf
        exact yretz hx hb hr hlocks hQ hG rfl ⟨Nat.le_of_ble_eq_true rfl, Nat.le_of_ble_eq_true rfl⟩ (z_nar _ (Or.inl rfl)) dL_machine_238
      · replace hf := (if_neg c21).symm.trans hf
        refine lv_iconst (v := zI 1) hx hb dL_machine_233 (by decide +kernel) ?_
        refine lv_goto (tgt := 238) hx hb dL_machine_234 (by decide) ?_
        cases hf
        exact yretz hx hb hr hlocks hQ hG rfl ⟨Nat.le_of_ble_eq_true rfl, Nat.le_of_ble_eq_true rfl⟩ (z_nar _ (Or.inr rfl)) dL_machine_238
  have J176 : ∀ (S1 : yS) (S2 : yS) (dv : Int → Int) (x6 : Int) (x7 : Int) (x8 : Int) (x9 : Int) (s0 : Int) (F1 F2 : Nat → Prop) (H : Heap) (locs : List Loc) (hG : yG D cI cZ cF q1 F1 S1 q2 F2 S2 qd dv E1 E2 s.heap H locs) (ls : Array Slot) (hl : lv_has ls 11 [(0, .ref q1), (2, .ref qd), (6, .int (zI x6)), (7, .int (zI x7)), (8, .int (zI x8)), (9, .int (zI x9))]), f_L_machine_176 S1 S2 dv x6 x7 x8 x9 s0 = some (R0, R_S1, R_S2, R_dv) → W p l e rmL_machine s m args below meth c H locs 14 8396 Q (F0 m 176 ls [.int (zI s0)]) := by
    intro S1 S2 dv x6 x7 x8 x9 s0 F1 F2 H locs hG ls hl hf
    unfold f_L_machine_176 at hf
    refine lv_istore (lv' := [(10, .int (zI s0)), (0, .ref q1), (2, .ref qd), (6, .int (zI x6)), (7, .int (zI x7)), (8, .int (zI x8)), (9, .int (zI x9))]) hx hb dL_machine_176 hl (by decide) rfl (fun ls hl => ?_)
    refine lv_iload hx hb dL_machine_178 (lv_at hl 6 rfl) ?_
    obtain ⟨k22, hf⟩ := zck_some hf
    refine lz_if_lt (tgt := 237) hx hb k22 dL_machine_180 (by decide) (fun c23 => ?_) (fun c23 => ?_)
    · replace hf := (if_pos c23).symm.trans hf
      refine lv_iconst (v := zI 0) hx hb dL_machine_237 (by decide +kernel) ?_
      cases hf
      exact yretz hx hb hr hlocks hQ hG rfl ⟨Nat.le_of_ble_eq_true rfl, Nat.le_of_ble_eq_true rfl⟩ (z_nar _ (Or.inl rfl)) dL_machine_238
    · replace hf := (if_neg c23).symm.trans hf
      refine lv_iload hx hb dL_machine_183 (lv_at hl 6 rfl) ?_
      refine lv_iload hx hb dL_machine_185 (lv_at hl 5 rfl) ?_
      obtain ⟨k24, hf⟩ := zck_some hf
      refine lz_icmp_gt (tgt := 237) hx hb k24 dL_machine_187 (by decide) (fun c25 => ?_) (fun c25 => ?_)
      · replace hf := (if_pos c25).symm.trans hf
        refine lv_iconst (v := zI 0) hx hb dL_machine_237 (by decide +kernel) ?_
        cases hf
        exact yretz hx hb hr hlocks hQ hG rfl ⟨Nat.le_of_ble_eq_true rfl, Nat.le_of_ble_eq_true rfl⟩ (z_nar _ (Or.inl rfl)) dL_machine_238
      · replace hf := (if_neg c25).symm.trans hf
        refine lv_aload_n hx hb dL_machine_190 rfl (lv_at hl 2 rfl) ?_
        refine lv_iconst (v := zI 5) hx hb dL_machine_191 (by decide +kernel) ?_
        refine ygld hx hb hK hG (by decide) dL_machine_192 ?_
        refine lv_aload_n hx hb dL_machine_193 rfl (lv_at hl 2 rfl) ?_
        refine lv_iconst (v := zI 4) hx hb dL_machine_194 (by decide +kernel) ?_
        refine ygld hx hb hK hG (by decide) dL_machine_195 ?_
        obtain ⟨k26, hf⟩ := zck_some hf
        refine lz_icmp_gt (tgt := 237) hx hb k26 dL_machine_196 (by decide) (fun c27 => ?_) (fun c27 => ?_)
        · replace hf := (if_pos c27).symm.trans hf
          refine lv_iconst (v := zI 0) hx hb dL_machine_237 (by decide +kernel) ?_
          cases hf
          exact yretz hx hb hr hlocks hQ hG rfl ⟨Nat.le_of_ble_eq_true rfl, Nat.le_of_ble_eq_true rfl⟩ (z_nar _ (Or.inl rfl)) dL_machine_238
        · replace hf := (if_neg c27).symm.trans hf
          refine lv_aload_n hx hb dL_machine_199 rfl (lv_at hl 1 rfl) ?_
          refine lv_iload hx hb dL_machine_200 (lv_at hl 3 rfl) ?_
          obtain ⟨k28, hf⟩ := zck_some hf
          obtain ⟨y29, ey29, hf⟩ := zlt_some hf
          obtain ⟨k30, hf⟩ := zck_some hf
          refine ycVi (C := RX6) (As := [.int (zI x6)]) (rest := []) hx hb hml hown hts hl.1 hK (hX.kept hG.2.2.2.2.1) hNc hG.1.1 (yG_f1 hG) hG.2.2.2 (yn_sewn k28 (by rw [← ey29]; exact k30)) zk_t2_214 zk_t2_215 zk_t2_216 zk_t1_1 zk_t2_217 hd_X6_sewn rfl ⟨rfl, rfl, Nat.le_of_ble_eq_true rfl, Nat.le_of_ble_eq_true rfl⟩ ⟨Nat.le_of_ble_eq_true rfl, Nat.le_of_ble_eq_true rfl⟩ (yOb_recv hK hG.1.1) rfl (Nat.le_of_ble_eq_true rfl) dL_machine_202 (fun r F9 H locs hp hO hz hk9 hS => ?_)
          have hG := yG_1 hG hO hp.2 hz hk9 hS
          have hr9 := hp.1
          rw [← ey29] at hr9
          subst hr9
          refine lv_iload hx hb dL_machine_205 (lv_at hl 4 rfl) ?_
          refine lv_iload hx hb dL_machine_207 (lv_at hl 0 rfl) ?_
          obtain ⟨k31, hf⟩ := zck_some hf
          refine lz_if_eq (tgt := 217) hx hb k31 dL_machine_209 (by decide) (fun c32 => ?_) (fun c32 => ?_)
          · replace hf := (if_pos c32).symm.trans hf
            refine lv_iconst (v := zI 0) hx hb dL_machine_217 (by decide +kernel) ?_
            refine W.widen (Nat.le_of_ble_eq_true rfl) (Nat.le_of_ble_eq_true rfl) (J218 S1 S2 dv x6 x7 (y29.2) x7 0 _ _ _ _ hG _ (lv_sub hl [1, 3, 4] rfl) hf)
          · replace hf := (if_neg c32).symm.trans hf
            refine lv_iload hx hb dL_machine_212 (lv_at hl 6 rfl) ?_
            refine lv_goto (tgt := 218) hx hb dL_machine_214 (by decide) ?_
            refine W.widen (Nat.le_of_ble_eq_true rfl) (Nat.le_of_ble_eq_true rfl) (J218 S1 S2 dv x6 x7 (y29.2) x7 x9 _ _ _ _ hG _ (lv_sub hl [1, 3, 4] rfl) hf)
  have L45 : ∀ (S1 : yS) (S2 : yS) (x4 : Int) (n : Nat) (x6 : Int) (dv : Int → Int) (x6' : Int) (dv' : Int → Int), zlp (fun z => f_L_machine_L45 S1 S2 x4 z.1 z.2) n (x6, dv) = some (x6', dv') → ∀ (F1 F2 : Nat → Prop) (H : Heap) (locs : List Loc) (hG : yG D cI cZ cF q1 F1 S1 q2 F2 S2 qd dv E1 E2 s.heap H locs) (ls : Array Slot) (hl : lv_has ls 11 [(0, .ref q1), (1, .ref q2), (2, .ref qd), (4, .int (zI x4)), (6, .int (zI x6))]), (∀ (F1 F2 : Nat → Prop) (H : Heap) (locs : List Loc) (hG : yG D cI cZ cF q1 F1 S1 q2 F2 S2 qd (dv') E1 E2 s.heap H locs) (ls : Array Slot) (hl : lv_has ls 11 [(0, .ref q1), (1, .ref q2), (2, .ref qd), (4, .int (zI x4))]), W p l e rmL_machine s m args below meth c H locs 0 0 Q (F0 m 65 ls [])) → W p l e rmL_machine s m args below meth c H locs 0 0 Q (F0 m 45 ls []) := by
    intro S1 S2 x4 n
    induction n with
    | zero => intro x6 dv x6' dv' hz; exact (zlp_0 hz).elim
    | succ n ih =>
      intro x6 dv x6' dv' hz F1 F2 H locs hG ls hl kx
      obtain ⟨nx, hf, hnx⟩ := zlp_some hz
      have hf : f_L_machine_L45 S1 S2 x4 x6 dv = some nx := hf
      unfold f_L_machine_L45 at hf
      refine lv_iload hx hb dL_machine_45 (lv_at hl 4 rfl) ?_
      refine lv_iconst (v := zI 4) hx hb dL_machine_47 (by decide +kernel) ?_
      obtain ⟨k33, hf⟩ := zck_some hf
      refine lz_icmp_ge (tgt := 65) hx hb ⟨k33, by decide⟩ dL_machine_48 (by decide) (fun c34 => ?_) (fun c34 => ?_)
      · replace hf := (if_pos c34).symm.trans hf
        cases hf
        cases hnx
        exact kx _ _ _ _ hG _ (lv_sub hl [0, 1, 2, 3] rfl)
      · replace hf := (if_neg c34).symm.trans hf
        refine lv_aload_n hx hb dL_machine_51 rfl (lv_at hl 2 rfl) ?_
        refine lv_bipush (v := zI 22) hx hb dL_machine_52 (by decide +kernel) ?_
        refine lv_iload hx hb dL_machine_54 (lv_at hl 4 rfl) ?_
        refine lz_iadd hx hb dL_machine_56 ?_
        refine lv_iconst (v := zI (-1)) hx hb dL_machine_57 (by decide +kernel) ?_
        obtain ⟨k35, hf⟩ := zck_some hf
        obtain ⟨a36, ea36, hf⟩ := zlt_some hf
        refine ygst hx hb hK hG k35 dL_machine_58 (fun H locs hG => ?_)
        rw [← ea36] at hG
        refine lz_iinc (lv' := [(6, .int (zI (x6 + 1))), (0, .ref q1), (1, .ref q2), (2, .ref qd), (4, .int (zI x4))]) hx hb dL_machine_59 hl (j := 4) rfl (by decide) rfl (fun ls hl => ?_)
        refine lv_goto (tgt := 45) hx hb dL_machine_62 (by decide) ?_
        cases hf
        exact ih (x6 + 1) a36 _ _ hnx _ _ _ _ hG _ (lv_sub hl [1, 2, 3, 4, 0] rfl) kx
  have J20 : ∀ (S1 : yS) (S2 : yS) (dv : Int → Int) (x4 : Int) (F1 F2 : Nat → Prop) (H : Heap) (locs : List Loc) (hG : yG D cI cZ cF q1 F1 S1 q2 F2 S2 qd dv E1 E2 s.heap H locs) (ls : Array Slot) (hl : lv_has ls 11 [(0, .ref q1), (1, .ref q2), (2, .ref qd), (4, .int (zI x4))]), f_L_machine_20 S1 S2 dv x4 = some (R0, R_S1, R_S2, R_dv) → W p l e rmL_machine s m args below meth c H locs 0 0 Q (F0 m 20 ls []) := by
    intro S1 S2 dv x4 F1 F2 H locs hG ls hl hf
    unfold f_L_machine_20 at hf
    refine lv_aload_n hx hb dL_machine_20 rfl (lv_at hl 2 rfl) ?_
    refine lv_iconst (v := zI 3) hx hb dL_machine_21 (by decide +kernel) ?_
    refine lv_iconst (v := zI 1) hx hb dL_machine_22 (by decide +kernel) ?_
    refine lv_iload hx hb dL_machine_23 (lv_at hl 3 rfl) ?_
    refine lv_iconst (v := zI 4) hx hb dL_machine_25 (by decide +kernel) ?_
    obtain ⟨r37, k38, hf⟩ := zb1_some hf
    refine ycSi (As := [.int (zI x4), .int (zI 4)]) (rest := [.int (zI 1), .int (zI 3), .ref qd]) (rm := rmL_some) (mc1 := 0) (ms1 := 0) (Bp := fun _ => True) (U := Unit) (post := fun (r : Int32) (_ : Unit) => r = zI r37) (Bq := fun _ _ => True) hx hb hml hown hts hl.1 hK (hX.kept hG.2.2.2.2.1) hNc trivial (yG_f0 hG) hG.2.2.2 (c_L_some k38) zk_t1_182 zk_t1_183 zk_t1_0 zk_t1_184 hd_L_some rfl ⟨rfl, rfl, Nat.le_of_ble_eq_true rfl, Nat.le_of_ble_eq_true rfl⟩ ⟨Nat.le_of_ble_eq_true rfl, Nat.le_of_ble_eq_true rfl⟩ rfl (Nat.le_of_ble_eq_true rfl) dL_machine_26 (fun r u H locs hp _ hz hk9 hS => ?_)
    have hG := yG_0 hG hz hk9 hS
    subst hp
    refine lz_iadd hx hb dL_machine_29 ?_
    obtain ⟨a39, ea39, hf⟩ := zlt_some hf
    refine ygst hx hb hK hG (by decide) dL_machine_30 (fun H locs hG => ?_)
    rw [← ea39] at hG
    refine lv_aload_n hx hb dL_machine_31 rfl (lv_at hl 2 rfl) ?_
    refine lv_iconst (v := zI 4) hx hb dL_machine_32 (by decide +kernel) ?_
    refine lv_aload_n hx hb dL_machine_33 rfl (lv_at hl 0 rfl) ?_
    obtain ⟨y40, ey40, hf⟩ := zlt_some hf
    refine ycVi (C := RX6) (As := []) (rest := [.int (zI 4), .ref qd]) hx hb hml hown hts hl.1 hK (hX.kept hG.2.2.2.2.1) hNc hG.1.1 (yG_f1 hG) hG.2.2.2 (yc_commands) zk_t1_189 zk_t1_190 zk_t1_191 zk_t1_1 zk_t1_192 hd_X6_commands rfl ⟨rfl, rfl, Nat.le_of_ble_eq_true rfl, Nat.le_of_ble_eq_true rfl⟩ ⟨Nat.le_of_ble_eq_true rfl, Nat.le_of_ble_eq_true rfl⟩ (yOb_recv hK hG.1.1) rfl (Nat.le_of_ble_eq_true rfl) dL_machine_34 (fun r F9 H locs hp hO hz hk9 hS => ?_)
    have hG := yG_1 hG hO hp.2 hz hk9 hS
    have hr9 := hp.1
    rw [← ey40] at hr9
    subst hr9
    obtain ⟨a41, ea41, hf⟩ := zlt_some hf
    refine ygst hx hb hK hG (by decide) dL_machine_37 (fun H locs hG => ?_)
    rw [← ea41] at hG
    refine lv_aload_n hx hb dL_machine_38 rfl (lv_at hl 2 rfl) ?_
    refine lv_iconst (v := zI 5) hx hb dL_machine_39 (by decide +kernel) ?_
    refine lv_iconst (v := zI 0) hx hb dL_machine_40 (by decide +kernel) ?_
    obtain ⟨a42, ea42, hf⟩ := zlt_some hf
    refine ygst hx hb hK hG (by decide) dL_machine_41 (fun H locs hG => ?_)
    rw [← ea42] at hG
    refine lv_iconst (v := zI 0) hx hb dL_machine_42 (by decide +kernel) ?_
    refine lv_istore (lv' := [(6, .int (zI 0)), (0, .ref q1), (1, .ref q2), (2, .ref qd), (4, .int (zI x4))]) hx hb dL_machine_43 hl (by decide) rfl (fun ls hl => ?_)
    obtain ⟨w44, w45, k43, hf⟩ := zb2_some hf
    refine W.widen (Nat.le_of_ble_eq_true rfl) (Nat.le_of_ble_eq_true rfl) (L45 S1 S2 x4 zFU 0 a42 w44 w45 k43 _ _ _ _ hG _ (lv_sub hl [1, 2, 3, 4, 0] rfl) (fun F1 F2 H locs hG ls hl => ?_))
    refine lv_aload_n hx hb dL_machine_65 rfl (lv_at hl 0 rfl) ?_
    refine lv_aload_n hx hb dL_machine_66 rfl (lv_at hl 1 rfl) ?_
    refine lv_bipush (v := zI 13) hx hb dL_machine_67 (by decide +kernel) ?_
    refine lv_aload_n hx hb dL_machine_69 rfl (lv_at hl 2 rfl) ?_
    refine lv_iconst (v := zI 3) hx hb dL_machine_70 (by decide +kernel) ?_
    refine ygld hx hb hK hG (by decide) dL_machine_71 ?_
    refine lv_iload hx hb dL_machine_72 (lv_at hl 3 rfl) ?_
    refine lv_iconst (v := zI 3) hx hb dL_machine_74 (by decide +kernel) ?_
    refine lz_ysr hx hb dL_machine_75 ?_
    refine lv_bipush (v := zI 6) hx hb dL_machine_76 (by decide +kernel) ?_
    obtain ⟨r46, k47, hf⟩ := zb1_some hf
    refine ycSi (As := [.int (zI (ysr x4 3)), .int (zI 6)]) (rest := [.int (zI (w45 3)), .int (zI 13), .ref q2, .ref q1]) (rm := rmL_some) (mc1 := 0) (ms1 := 0) (Bp := fun _ => True) (U := Unit) (post := fun (r : Int32) (_ : Unit) => r = zI r46) (Bq := fun _ _ => True) hx hb hml hown hts hl.1 hK (hX.kept hG.2.2.2.2.1) hNc trivial (yG_f0 hG) hG.2.2.2 (c_L_some k47) zk_t1_182 zk_t1_183 zk_t1_0 zk_t1_184 hd_L_some rfl ⟨rfl, rfl, Nat.le_of_ble_eq_true rfl, Nat.le_of_ble_eq_true rfl⟩ ⟨Nat.le_of_ble_eq_true rfl, Nat.le_of_ble_eq_true rfl⟩ rfl (Nat.le_of_ble_eq_true rfl) dL_machine_78 (fun r u H locs hp _ hz hk9 hS => ?_)
    have hG := yG_0 hG hz hk9 hS
    subst hp
    refine lv_iconst (v := zI 0) hx hb dL_machine_81 (by decide +kernel) ?_
    obtain ⟨r48, s49, s50, k51, hf⟩ := zb3_some hf
    refine ycSi (As := [.ref q1, .ref q2, .int (zI 13), .int (zI (w45 3)), .int (zI r46), .int (zI 0)]) (rest := []) hx hb hml hown hts hl.1 hK (hX.kept hG.2.2.2.2.1) hNc hG.1 (yG_fw hG) hG.2.2.2 (c_L_both hst k51) zk_t3_28 zk_t3_29 zk_t1_0 zk_t3_30 hd_L_both rfl ⟨rfl, rfl, Nat.le_of_ble_eq_true rfl, Nat.le_of_ble_eq_true rfl⟩ ⟨Nat.le_of_ble_eq_true rfl, Nat.le_of_ble_eq_true rfl⟩ rfl (Nat.le_of_ble_eq_true rfl) dL_machine_82 (fun r u H locs hp hW9 hz hk9 hS => ?_)
    have hG := yG_w hG hW9 hp.2 hz hS
    have hr9 := hp.1
    subst hr9
    obtain ⟨k52, hf⟩ := zck_some hf
    refine lz_if_ne (tgt := 100) hx hb k52 dL_machine_85 (by decide) (fun c53 => ?_) (fun c53 => ?_)
    · replace hf := (if_neg c53).symm.trans hf
      refine lv_iconst (v := zI 0) hx hb dL_machine_100 (by decide +kernel) ?_
      cases hf
      exact yretz hx hb hr hlocks hQ hG rfl ⟨Nat.le_of_ble_eq_true rfl, Nat.le_of_ble_eq_true rfl⟩ (z_nar _ (Or.inl rfl)) dL_machine_101
    · replace hf := (if_pos c53).symm.trans hf
      refine lv_aload_n hx hb dL_machine_88 rfl (lv_at hl 0 rfl) ?_
      refine lv_iconst (v := zI 0) hx hb dL_machine_89 (by decide +kernel) ?_
      obtain ⟨y54, ey54, hf⟩ := zlt_some hf
      obtain ⟨k55, hf⟩ := zck_some hf
      refine ycVi (C := RX6) (As := [.int (zI 0)]) (rest := []) hx hb hml hown hts hl.1 hK (hX.kept hG.2.2.2.2.1) hNc hG.1.1 (yG_f1 hG) hG.2.2.2 (yn_sewn (by decide) (by rw [← ey54]; exact k55)) zk_t2_214 zk_t2_215 zk_t2_216 zk_t1_1 zk_t2_217 hd_X6_sewn rfl ⟨rfl, rfl, Nat.le_of_ble_eq_true rfl, Nat.le_of_ble_eq_true rfl⟩ ⟨Nat.le_of_ble_eq_true rfl, Nat.le_of_ble_eq_true rfl⟩ (yOb_recv hK hG.1.1) rfl (Nat.le_of_ble_eq_true rfl) dL_machine_90 (fun r F9 H locs hp hO hz hk9 hS => ?_)
      have hG := yG_1 hG hO hp.2 hz hk9 hS
      have hr9 := hp.1
      rw [← ey54] at hr9
      subst hr9
      obtain ⟨k56, hf⟩ := zck_some hf
      refine lz_if_ne (tgt := 100) hx hb k56 dL_machine_93 (by decide) (fun c57 => ?_) (fun c57 => ?_)
      · replace hf := (if_neg c57).symm.trans hf
        refine lv_iconst (v := zI 0) hx hb dL_machine_100 (by decide +kernel) ?_
        cases hf
        exact yretz hx hb hr hlocks hQ hG rfl ⟨Nat.le_of_ble_eq_true rfl, Nat.le_of_ble_eq_true rfl⟩ (z_nar _ (Or.inl rfl)) dL_machine_101
      · replace hf := (if_pos c57).symm.trans hf
        refine lv_iconst (v := zI 1) hx hb dL_machine_96 (by decide +kernel) ?_
        refine lv_goto (tgt := 101) hx hb dL_machine_97 (by decide) ?_
        cases hf
        exact yretz hx hb hr hlocks hQ hG rfl ⟨Nat.le_of_ble_eq_true rfl, Nat.le_of_ble_eq_true rfl⟩ (z_nar _ (Or.inr rfl)) dL_machine_101
  unfold f_L_machine at hf
  refine lv_iload_n hx hb dL_machine_0 rfl (lv_at hl 3 rfl) ?_
  refine lv_bipush (v := zI 8) hx hb dL_machine_1 (by decide +kernel) ?_
  obtain ⟨r58, k59, hf⟩ := zb1_some hf
  refine ycSi (As := [.int (zI p3), .int (zI 8)]) (rest := []) (rm := rmL_some) (mc1 := 0) (ms1 := 0) (Bp := fun _ => True) (U := Unit) (post := fun (r : Int32) (_ : Unit) => r = zI r58) (Bq := fun _ _ => True) hx hb hml hown hts hl.1 hK (hX.kept hG.2.2.2.2.1) hNc trivial (yG_f0 hG) hG.2.2.2 (c_L_some k59) zk_t1_182 zk_t1_183 zk_t1_0 zk_t1_184 hd_L_some rfl ⟨rfl, rfl, Nat.le_of_ble_eq_true rfl, Nat.le_of_ble_eq_true rfl⟩ ⟨Nat.le_of_ble_eq_true rfl, Nat.le_of_ble_eq_true rfl⟩ rfl (Nat.le_of_ble_eq_true rfl) dL_machine_3 (fun r u H locs hp _ hz hk9 hS => ?_)
  have hG := yG_0 hG hz hk9 hS
  subst hp
  refine lv_istore (lv' := [(5, .int (zI r58)), (0, .ref q1), (1, .ref q2), (2, .ref qd), (3, .int (zI p3)), (4, .int (zI p4))]) hx hb dL_machine_6 hl (by decide) rfl (fun ls hl => ?_)
  refine lv_iload hx hb dL_machine_8 (lv_at hl 0 rfl) ?_
  refine lv_iconst (v := zI 1) hx hb dL_machine_10 (by decide +kernel) ?_
  obtain ⟨k60, hf⟩ := zck_some hf
  refine lz_icmp_lt (tgt := 20) hx hb ⟨k60, by decide⟩ dL_machine_11 (by decide) (fun c61 => ?_) (fun c61 => ?_)
  · replace hf := (if_pos c61).symm.trans hf
    refine W.widen (Nat.le_of_ble_eq_true rfl) (Nat.le_of_ble_eq_true rfl) (J20 S1 S2 dv p4 _ _ _ _ hG _ (lv_sub hl [1, 2, 3, 5] rfl) hf)
  · replace hf := (if_neg c61).symm.trans hf
    refine lv_aload_n hx hb dL_machine_14 rfl (lv_at hl 3 rfl) ?_
    refine lv_iconst (v := zI 3) hx hb dL_machine_15 (by decide +kernel) ?_
    refine ygld hx hb hK hG (by decide) dL_machine_16 ?_
    obtain ⟨k62, hf⟩ := zck_some hf
    refine lz_if_ne (tgt := 102) hx hb k62 dL_machine_17 (by decide) (fun c63 => ?_) (fun c63 => ?_)
    · replace hf := (if_neg c63).symm.trans hf
      refine lv_iload hx hb dL_machine_102 (lv_at hl 5 rfl) ?_
      refine lv_aload_n hx hb dL_machine_104 rfl (lv_at hl 3 rfl) ?_
      refine lv_iconst (v := zI 3) hx hb dL_machine_105 (by decide +kernel) ?_
      refine ygld hx hb hK hG (by decide) dL_machine_106 ?_
      obtain ⟨r64, k65, hf⟩ := zb1_some hf
      refine ycSi (As := [.int (zI p4), .int (zI (dv 3))]) (rest := []) (rm := rmL_some) (mc1 := 0) (ms1 := 0) (Bp := fun _ => True) (U := Unit) (post := fun (r : Int32) (_ : Unit) => r = zI r64) (Bq := fun _ _ => True) hx hb hml hown hts hl.1 hK (hX.kept hG.2.2.2.2.1) hNc trivial (yG_f0 hG) hG.2.2.2 (c_L_some k65) zk_t1_182 zk_t1_183 zk_t1_0 zk_t1_184 hd_L_some rfl ⟨rfl, rfl, Nat.le_of_ble_eq_true rfl, Nat.le_of_ble_eq_true rfl⟩ ⟨Nat.le_of_ble_eq_true rfl, Nat.le_of_ble_eq_true rfl⟩ rfl (Nat.le_of_ble_eq_true rfl) dL_machine_107 (fun r u H locs hp _ hz hk9 hS => ?_)
      have hG := yG_0 hG hz hk9 hS
      subst hp
      refine lv_istore (lv' := [(6, .int (zI r64)), (5, .int (zI r58)), (0, .ref q1), (1, .ref q2), (2, .ref qd), (3, .int (zI p3)), (4, .int (zI p4))]) hx hb dL_machine_110 hl (by decide) rfl (fun ls hl => ?_)
      refine lv_aload_n hx hb dL_machine_112 rfl (lv_at hl 2 rfl) ?_
      refine lv_iload hx hb dL_machine_113 (lv_at hl 0 rfl) ?_
      obtain ⟨k66, hf⟩ := zck_some hf
      obtain ⟨y67, ey67, hf⟩ := zlt_some hf
      obtain ⟨k68, hf⟩ := zck_some hf
      refine ycVi (C := RX6) (As := [.int (zI r64)]) (rest := []) hx hb hml hown hts hl.1 hK (hX.kept hG.2.2.2.2.1) hNc hG.1.1 (yG_f1 hG) hG.2.2.2 (yn_sewn k66 (by rw [← ey67]; exact k68)) zk_t2_214 zk_t2_215 zk_t2_216 zk_t1_1 zk_t2_217 hd_X6_sewn rfl ⟨rfl, rfl, Nat.le_of_ble_eq_true rfl, Nat.le_of_ble_eq_true rfl⟩ ⟨Nat.le_of_ble_eq_true rfl, Nat.le_of_ble_eq_true rfl⟩ (yOb_recv hK hG.1.1) rfl (Nat.le_of_ble_eq_true rfl) dL_machine_115 (fun r F9 H locs hp hO hz hk9 hS => ?_)
      have hG := yG_1 hG hO hp.2 hz hk9 hS
      have hr9 := hp.1
      rw [← ey67] at hr9
      subst hr9
      obtain ⟨v69, ev69, hf⟩ := zlt_some hf
      refine lz_nm ev69 ?_
      refine lv_istore (lv' := [(7, .int (zI v69)), (6, .int (zI r64)), (5, .int (zI r58)), (0, .ref q1), (1, .ref q2), (2, .ref qd), (3, .int (zI p3)), (4, .int (zI p4))]) hx hb dL_machine_118 hl (by decide) rfl (fun ls hl => ?_)
      refine lv_iload hx hb dL_machine_120 (lv_at hl 2 rfl) ?_
      refine lv_iconst (v := zI 5) hx hb dL_machine_122 (by decide +kernel) ?_
      obtain ⟨k70, hf⟩ := zck_some hf
      refine lz_icmp_ge (tgt := 239) hx hb ⟨k70, by decide⟩ dL_machine_123 (by decide) (fun c71 => ?_) (fun c71 => ?_)
      · replace hf := (if_pos c71).symm.trans hf
        refine lv_iload hx hb dL_machine_239 (lv_at hl 2 rfl) ?_
        refine lv_bipush (v := zI 6) hx hb dL_machine_241 (by decide +kernel) ?_
        obtain ⟨k72, hf⟩ := zck_some hf
        refine lz_icmp_ge (tgt := 335) hx hb ⟨k72, by decide⟩ dL_machine_243 (by decide) (fun c73 => ?_) (fun c73 => ?_)
        · replace hf := (if_pos c73).symm.trans hf
          refine lv_aload_n hx hb dL_machine_335 rfl (lv_at hl 3 rfl) ?_
          refine lv_aload_n hx hb dL_machine_336 rfl (lv_at hl 4 rfl) ?_
          refine lv_bipush (v := zI 16) hx hb dL_machine_337 (by decide +kernel) ?_
          refine lv_iload hx hb dL_machine_339 (lv_at hl 1 rfl) ?_
          refine lv_iconst (v := zI 0) hx hb dL_machine_341 (by decide +kernel) ?_
          refine lv_iconst (v := zI 0) hx hb dL_machine_342 (by decide +kernel) ?_
          obtain ⟨r74, s75, s76, k77, hf⟩ := zb3_some hf
          refine ycSi (As := [.ref q1, .ref q2, .int (zI 16), .int (zI r64), .int (zI 0), .int (zI 0)]) (rest := []) hx hb hml hown hts hl.1 hK (hX.kept hG.2.2.2.2.1) hNc hG.1 (yG_fw hG) hG.2.2.2 (c_L_both hst k77) zk_t3_28 zk_t3_29 zk_t1_0 zk_t3_30 hd_L_both rfl ⟨rfl, rfl, Nat.le_of_ble_eq_true rfl, Nat.le_of_ble_eq_true rfl⟩ ⟨Nat.le_of_ble_eq_true rfl, Nat.le_of_ble_eq_true rfl⟩ rfl (Nat.le_of_ble_eq_true rfl) dL_machine_343 (fun r u H locs hp hW9 hz hk9 hS => ?_)
          have hG := yG_w hG hW9 hp.2 hz hS
          have hr9 := hp.1
          subst hr9
          refine lv_istore (lv' := [(8, .int (zI r74)), (7, .int (zI v69)), (6, .int (zI r64)), (5, .int (zI r58)), (0, .ref q1), (1, .ref q2), (2, .ref qd), (3, .int (zI p3)), (4, .int (zI p4))]) hx hb dL_machine_346 hl (by decide) rfl (fun ls hl => ?_)
          refine lv_iload hx hb dL_machine_348 (lv_at hl 0 rfl) ?_
          refine lv_ldc (v := zI (-2000000003)) hx hb hown (hts _ (show Cond.constant RL 23 (zI (-2000000003)) ∈ wsL_law from zk_t4_62)) dL_machine_350 ?_
          obtain ⟨k78, hf⟩ := zck_some hf
          refine lz_icmp_ne (tgt := 392) hx hb ⟨k78, by decide⟩ dL_machine_352 (by decide) (fun c79 => ?_) (fun c79 => ?_)
          · replace hf := (if_neg c79).symm.trans hf
            refine lv_aload_n hx hb dL_machine_392 rfl (lv_at hl 6 rfl) ?_
            refine lv_iconst (v := zI 5) hx hb dL_machine_393 (by decide +kernel) ?_
            refine ygld hx hb hK hG (by decide) dL_machine_394 ?_
            refine lv_aload_n hx hb dL_machine_395 rfl (lv_at hl 6 rfl) ?_
            refine lv_bipush (v := zI 22) hx hb dL_machine_396 (by decide +kernel) ?_
            refine lv_iload hx hb dL_machine_398 (lv_at hl 2 rfl) ?_
            refine lz_iadd hx hb dL_machine_400 ?_
            obtain ⟨k80, hf⟩ := zck_some hf
            refine ygld hx hb hK hG k80 dL_machine_401 ?_
            refine lz_isub hx hb dL_machine_402 ?_
            refine lv_iconst (v := zI 3) hx hb dL_machine_403 (by decide +kernel) ?_
            refine lz_iadd hx hb dL_machine_404 ?_
            obtain ⟨v81, ev81, hf⟩ := zlt_some hf
            refine lz_nm ev81 ?_
            refine lv_istore (lv' := [(9, .int (zI v81)), (8, .int (zI r74)), (7, .int (zI v69)), (6, .int (zI r64)), (5, .int (zI r58)), (0, .ref q1), (1, .ref q2), (2, .ref qd), (3, .int (zI p3)), (4, .int (zI p4))]) hx hb dL_machine_405 hl (by decide) rfl (fun ls hl => ?_)
            refine lv_aload_n hx hb dL_machine_407 rfl (lv_at hl 7 rfl) ?_
            refine lv_bipush (v := zI 22) hx hb dL_machine_408 (by decide +kernel) ?_
            refine lv_iload hx hb dL_machine_410 (lv_at hl 3 rfl) ?_
            refine lz_iadd hx hb dL_machine_412 ?_
            refine lv_iconst (v := zI (-1)) hx hb dL_machine_413 (by decide +kernel) ?_
            obtain ⟨k82, hf⟩ := zck_some hf
            obtain ⟨a83, ea83, hf⟩ := zlt_some hf
            refine ygst hx hb hK hG k82 dL_machine_414 (fun H locs hG => ?_)
            rw [← ea83] at hG
            refine lv_iload hx hb dL_machine_415 (lv_at hl 1 rfl) ?_
            obtain ⟨k84, hf⟩ := zck_some hf
            refine lz_if_lt (tgt := 460) hx hb k84 dL_machine_417 (by decide) (fun c85 => ?_) (fun c85 => ?_)
            · replace hf := (if_pos c85).symm.trans hf
              refine lv_iconst (v := zI 0) hx hb dL_machine_460 (by decide +kernel) ?_
              cases hf
              exact yretz hx hb hr hlocks hQ hG rfl ⟨Nat.le_of_ble_eq_true rfl, Nat.le_of_ble_eq_true rfl⟩ (z_nar _ (Or.inl rfl)) dL_machine_461
            · replace hf := (if_neg c85).symm.trans hf
              refine lv_iload hx hb dL_machine_420 (lv_at hl 1 rfl) ?_
              refine lv_iload hx hb dL_machine_422 (lv_at hl 0 rfl) ?_
              obtain ⟨k86, hf⟩ := zck_some hf
              refine lz_icmp_gt (tgt := 460) hx hb k86 dL_machine_424 (by decide) (fun c87 => ?_) (fun c87 => ?_)
              · replace hf := (if_pos c87).symm.trans hf
                refine lv_iconst (v := zI 0) hx hb dL_machine_460 (by decide +kernel) ?_
                cases hf
                exact yretz hx hb hr hlocks hQ hG rfl ⟨Nat.le_of_ble_eq_true rfl, Nat.le_of_ble_eq_true rfl⟩ (z_nar _ (Or.inl rfl)) dL_machine_461
              · replace hf := (if_neg c87).symm.trans hf
                refine lv_aload_n hx hb dL_machine_427 rfl (lv_at hl 5 rfl) ?_
                refine lv_iload hx hb dL_machine_428 (lv_at hl 3 rfl) ?_
                obtain ⟨k88, hf⟩ := zck_some hf
                obtain ⟨y89, ey89, hf⟩ := zlt_some hf
                obtain ⟨k90, hf⟩ := zck_some hf
                refine ycVi (C := RX6) (As := [.int (zI r64)]) (rest := []) hx hb hml hown hts hl.1 hK (hX.kept hG.2.2.2.2.1) hNc hG.1.1 (yG_f1 hG) hG.2.2.2 (yn_sewn k88 (by rw [← ey89]; exact k90)) zk_t2_214 zk_t2_215 zk_t2_216 zk_t1_1 zk_t2_217 hd_X6_sewn rfl ⟨rfl, rfl, Nat.le_of_ble_eq_true rfl, Nat.le_of_ble_eq_true rfl⟩ ⟨Nat.le_of_ble_eq_true rfl, Nat.le_of_ble_eq_true rfl⟩ (yOb_recv hK hG.1.1) rfl (Nat.le_of_ble_eq_true rfl) dL_machine_430 (fun r F9 H locs hp hO hz hk9 hS => ?_)
                have hG := yG_1 hG hO hp.2 hz hk9 hS
                have hr9 := hp.1
                rw [← ey89] at hr9
                subst hr9
                refine lv_iload hx hb dL_machine_433 (lv_at hl 2 rfl) ?_
                refine lv_iload hx hb dL_machine_435 (lv_at hl 1 rfl) ?_
                refine lz_iadd hx hb dL_machine_437 ?_
                obtain ⟨k91, hf⟩ := zck_some hf
                refine lz_icmp_ne (tgt := 460) hx hb k91 dL_machine_438 (by decide) (fun c92 => ?_) (fun c92 => ?_)
                · replace hf := (if_neg c92).symm.trans hf
                  refine lv_iconst (v := zI 0) hx hb dL_machine_460 (by decide +kernel) ?_
                  cases hf
                  exact yretz hx hb hr hlocks hQ hG rfl ⟨Nat.le_of_ble_eq_true rfl, Nat.le_of_ble_eq_true rfl⟩ (z_nar _ (Or.inl rfl)) dL_machine_461
                · replace hf := (if_pos c92).symm.trans hf
                  refine lv_aload_n hx hb dL_machine_441 rfl (lv_at hl 5 rfl) ?_
                  refine lv_bipush (v := zI 16) hx hb dL_machine_442 (by decide +kernel) ?_
                  refine lv_iload hx hb dL_machine_444 (lv_at hl 3 rfl) ?_
                  refine lv_iconst (v := zI 0) hx hb dL_machine_446 (by decide +kernel) ?_
                  refine lv_iconst (v := zI 0) hx hb dL_machine_447 (by decide +kernel) ?_
                  obtain ⟨r93, s94, k95, hf⟩ := zb2_some hf
                  refine ycSiW (As := [.ref q1, .int (zI 16), .int (zI r64), .int (zI 0), .int (zI 0)]) (rest := []) hx hb hml hown hts hl.1 hK (hX.kept hG.2.2.2.2.1) hNc hG.1 (yG_fw hG) hG.2.2.2 (c_L_call hst k95) zk_t3_31 zk_t3_32 zk_t1_0 zk_t3_33 hd_L_call rfl ⟨rfl, rfl, Nat.le_of_ble_eq_true rfl, Nat.le_of_ble_eq_true rfl⟩ ⟨Nat.le_of_ble_eq_true rfl, Nat.le_of_ble_eq_true rfl⟩ rfl (Nat.le_of_ble_eq_true rfl) dL_machine_448 (fun r u H locs hp hW9 hz hk9 hS => ?_)
                  have hG := yG_w hG hW9 hp.2 hz hS
                  have hr9 := hp.1
                  subst hr9
                  refine lv_ldc (v := zI (-2000000003)) hx hb hown (hts _ (show Cond.constant RL 23 (zI (-2000000003)) ∈ wsL_law from zk_t4_62)) dL_machine_451 ?_
                  obtain ⟨k96, hf⟩ := zck_some hf
                  refine lz_icmp_ne (tgt := 460) hx hb ⟨k96, by decide⟩ dL_machine_453 (by decide) (fun c97 => ?_) (fun c97 => ?_)
                  · replace hf := (if_neg c97).symm.trans hf
                    refine lv_iconst (v := zI 0) hx hb dL_machine_460 (by decide +kernel) ?_
                    cases hf
                    exact yretz hx hb hr hlocks hQ hG rfl ⟨Nat.le_of_ble_eq_true rfl, Nat.le_of_ble_eq_true rfl⟩ (z_nar _ (Or.inl rfl)) dL_machine_461
                  · replace hf := (if_pos c97).symm.trans hf
                    refine lv_iconst (v := zI 1) hx hb dL_machine_456 (by decide +kernel) ?_
                    refine lv_goto (tgt := 461) hx hb dL_machine_457 (by decide) ?_
                    cases hf
                    exact yretz hx hb hr hlocks hQ hG rfl ⟨Nat.le_of_ble_eq_true rfl, Nat.le_of_ble_eq_true rfl⟩ (z_nar _ (Or.inr rfl)) dL_machine_461
          · replace hf := (if_pos c79).symm.trans hf
            refine lv_aload_n hx hb dL_machine_355 rfl (lv_at hl 4 rfl) ?_
            refine lv_iload hx hb dL_machine_356 (lv_at hl 2 rfl) ?_
            obtain ⟨k98, hf⟩ := zck_some hf
            obtain ⟨y99, ey99, hf⟩ := zlt_some hf
            obtain ⟨k100, hf⟩ := zck_some hf
            refine ycVi (C := RX6) (As := [.int (zI r64)]) (rest := []) hx hb hml hown hts hl.1 hK (hX.kept hG.2.2.2.2.1) hNc hG.1.1 (yG_f1 hG) hG.2.2.2 (yn_sewn k98 (by rw [← ey99]; exact k100)) zk_t2_214 zk_t2_215 zk_t2_216 zk_t1_1 zk_t2_217 hd_X6_sewn rfl ⟨rfl, rfl, Nat.le_of_ble_eq_true rfl, Nat.le_of_ble_eq_true rfl⟩ ⟨Nat.le_of_ble_eq_true rfl, Nat.le_of_ble_eq_true rfl⟩ (yOb_recv hK hG.1.1) rfl (Nat.le_of_ble_eq_true rfl) dL_machine_358 (fun r F9 H locs hp hO hz hk9 hS => ?_)
            have hG := yG_1 hG hO hp.2 hz hk9 hS
            have hr9 := hp.1
            rw [← ey99] at hr9
            subst hr9
            refine lv_iload hx hb dL_machine_361 (lv_at hl 1 rfl) ?_
            obtain ⟨k101, hf⟩ := zck_some hf
            refine lz_icmp_ne (tgt := 390) hx hb k101 dL_machine_363 (by decide) (fun c102 => ?_) (fun c102 => ?_)
            · replace hf := (if_neg c102).symm.trans hf
              refine lv_iconst (v := zI 0) hx hb dL_machine_390 (by decide +kernel) ?_
              cases hf
              exact yretz hx hb hr hlocks hQ hG rfl ⟨Nat.le_of_ble_eq_true rfl, Nat.le_of_ble_eq_true rfl⟩ (z_nar _ (Or.inl rfl)) dL_machine_391
            · replace hf := (if_pos c102).symm.trans hf
              refine lv_aload_n hx hb dL_machine_366 rfl (lv_at hl 6 rfl) ?_
              refine lv_bipush (v := zI 22) hx hb dL_machine_367 (by decide +kernel) ?_
              refine lv_iload hx hb dL_machine_369 (lv_at hl 2 rfl) ?_
              refine lz_iadd hx hb dL_machine_371 ?_
              obtain ⟨k103, hf⟩ := zck_some hf
              refine ygld hx hb hK hG k103 dL_machine_372 ?_
              refine lv_iconst (v := zI (-1)) hx hb dL_machine_373 (by decide +kernel) ?_
              obtain ⟨k104, hf⟩ := zck_some hf
              refine lz_icmp_eq (tgt := 386) hx hb ⟨k104, by decide⟩ dL_machine_374 (by decide) (fun c105 => ?_) (fun c105 => ?_)
              · replace hf := (if_pos c105).symm.trans hf
                refine W.widen (Nat.le_of_ble_eq_true rfl) (Nat.le_of_ble_eq_true rfl) (J386 s75 s76 dv _ _ _ _ hG _ (lv_sub hl [] rfl) hf)
              · replace hf := (if_neg c105).symm.trans hf
                refine lv_aload_n hx hb dL_machine_377 rfl (lv_at hl 6 rfl) ?_
                refine lv_iconst (v := zI 5) hx hb dL_machine_378 (by decide +kernel) ?_
                refine ygld hx hb hK hG (by decide) dL_machine_379 ?_
                refine lv_aload_n hx hb dL_machine_380 rfl (lv_at hl 6 rfl) ?_
                refine lv_iconst (v := zI 4) hx hb dL_machine_381 (by decide +kernel) ?_
                refine ygld hx hb hK hG (by decide) dL_machine_382 ?_
                obtain ⟨k106, hf⟩ := zck_some hf
                refine lz_icmp_ge (tgt := 390) hx hb k106 dL_machine_383 (by decide) (fun c107 => ?_) (fun c107 => ?_)
                · replace hf := (if_pos c107).symm.trans hf
                  refine lv_iconst (v := zI 0) hx hb dL_machine_390 (by decide +kernel) ?_
                  cases hf
                  exact yretz hx hb hr hlocks hQ hG rfl ⟨Nat.le_of_ble_eq_true rfl, Nat.le_of_ble_eq_true rfl⟩ (z_nar _ (Or.inl rfl)) dL_machine_391
                · replace hf := (if_neg c107).symm.trans hf
                  refine W.widen (Nat.le_of_ble_eq_true rfl) (Nat.le_of_ble_eq_true rfl) (J386 s75 s76 dv _ _ _ _ hG _ (lv_sub hl [] rfl) hf)
        · replace hf := (if_neg c73).symm.trans hf
          refine lv_aload_n hx hb dL_machine_246 rfl (lv_at hl 3 rfl) ?_
          refine lv_aload_n hx hb dL_machine_247 rfl (lv_at hl 4 rfl) ?_
          refine lv_bipush (v := zI 15) hx hb dL_machine_248 (by decide +kernel) ?_
          refine lv_iload hx hb dL_machine_250 (lv_at hl 1 rfl) ?_
          refine lv_iconst (v := zI 0) hx hb dL_machine_252 (by decide +kernel) ?_
          refine lv_iconst (v := zI 0) hx hb dL_machine_253 (by decide +kernel) ?_
          obtain ⟨r108, s109, s110, k111, hf⟩ := zb3_some hf
          refine ycSi (As := [.ref q1, .ref q2, .int (zI 15), .int (zI r64), .int (zI 0), .int (zI 0)]) (rest := []) hx hb hml hown hts hl.1 hK (hX.kept hG.2.2.2.2.1) hNc hG.1 (yG_fw hG) hG.2.2.2 (c_L_both hst k111) zk_t3_28 zk_t3_29 zk_t1_0 zk_t3_30 hd_L_both rfl ⟨rfl, rfl, Nat.le_of_ble_eq_true rfl, Nat.le_of_ble_eq_true rfl⟩ ⟨Nat.le_of_ble_eq_true rfl, Nat.le_of_ble_eq_true rfl⟩ rfl (Nat.le_of_ble_eq_true rfl) dL_machine_254 (fun r u H locs hp hW9 hz hk9 hS => ?_)
          have hG := yG_w hG hW9 hp.2 hz hS
          have hr9 := hp.1
          subst hr9
          refine lv_istore (lv' := [(8, .int (zI r108)), (7, .int (zI v69)), (6, .int (zI r64)), (5, .int (zI r58)), (0, .ref q1), (1, .ref q2), (2, .ref qd), (3, .int (zI p3)), (4, .int (zI p4))]) hx hb dL_machine_257 hl (by decide) rfl (fun ls hl => ?_)
          refine lv_aload_n hx hb dL_machine_259 rfl (lv_at hl 6 rfl) ?_
          refine lv_bipush (v := zI 22) hx hb dL_machine_260 (by decide +kernel) ?_
          refine lv_iload hx hb dL_machine_262 (lv_at hl 2 rfl) ?_
          refine lz_iadd hx hb dL_machine_264 ?_
          obtain ⟨k112, hf⟩ := zck_some hf
          refine ygld hx hb hK hG k112 dL_machine_265 ?_
          refine lv_iconst (v := zI (-1)) hx hb dL_machine_266 (by decide +kernel) ?_
          obtain ⟨k113, hf⟩ := zck_some hf
          refine lz_icmp_ne (tgt := 274) hx hb ⟨k113, by decide⟩ dL_machine_267 (by decide) (fun c114 => ?_) (fun c114 => ?_)
          · replace hf := (if_neg c114).symm.trans hf
            refine lv_iconst (v := zI 0) hx hb dL_machine_274 (by decide +kernel) ?_
            refine W.widen (Nat.le_of_ble_eq_true rfl) (Nat.le_of_ble_eq_true rfl) (J275 s109 s110 dv r64 v69 r108 0 _ _ _ _ hG _ (lv_sub hl [4, 6, 2, 1, 0] rfl) hf)
          · replace hf := (if_pos c114).symm.trans hf
            refine lv_iconst (v := zI 1) hx hb dL_machine_270 (by decide +kernel) ?_
            refine lv_goto (tgt := 275) hx hb dL_machine_271 (by decide) ?_
            refine W.widen (Nat.le_of_ble_eq_true rfl) (Nat.le_of_ble_eq_true rfl) (J275 s109 s110 dv r64 v69 r108 1 _ _ _ _ hG _ (lv_sub hl [4, 6, 2, 1, 0] rfl) hf)
      · replace hf := (if_neg c71).symm.trans hf
        refine lv_iconst (v := zI 1) hx hb dL_machine_126 (by decide +kernel) ?_
        refine lv_iload hx hb dL_machine_127 (lv_at hl 7 rfl) ?_
        refine lv_iconst (v := zI 3) hx hb dL_machine_129 (by decide +kernel) ?_
        refine lz_ysr hx hb dL_machine_130 ?_
        refine lv_bipush (v := zI 60) hx hb dL_machine_131 (by decide +kernel) ?_
        obtain ⟨r115, k116, hf⟩ := zb1_some hf
        refine ycSi (As := [.int (zI (ysr p4 3)), .int (zI 60)]) (rest := [.int (zI 1)]) (rm := rmL_some) (mc1 := 0) (ms1 := 0) (Bp := fun _ => True) (U := Unit) (post := fun (r : Int32) (_ : Unit) => r = zI r115) (Bq := fun _ _ => True) hx hb hml hown hts hl.1 hK (hX.kept hG.2.2.2.2.1) hNc trivial (yG_f0 hG) hG.2.2.2 (c_L_some k116) zk_t1_182 zk_t1_183 zk_t1_0 zk_t1_184 hd_L_some rfl ⟨rfl, rfl, Nat.le_of_ble_eq_true rfl, Nat.le_of_ble_eq_true rfl⟩ ⟨Nat.le_of_ble_eq_true rfl, Nat.le_of_ble_eq_true rfl⟩ rfl (Nat.le_of_ble_eq_true rfl) dL_machine_133 (fun r u H locs hp _ hz hk9 hS => ?_)
        have hG := yG_0 hG hz hk9 hS
        subst hp
        refine lz_iadd hx hb dL_machine_136 ?_
        obtain ⟨v117, ev117, hf⟩ := zlt_some hf
        refine lz_nm ev117 ?_
        refine lv_istore (lv' := [(8, .int (zI v117)), (7, .int (zI v69)), (6, .int (zI r64)), (5, .int (zI r58)), (0, .ref q1), (1, .ref q2), (2, .ref qd), (3, .int (zI p3)), (4, .int (zI p4))]) hx hb dL_machine_137 hl (by decide) rfl (fun ls hl => ?_)
        refine lv_aload_n hx hb dL_machine_139 rfl (lv_at hl 4 rfl) ?_
        refine lv_aload_n hx hb dL_machine_140 rfl (lv_at hl 5 rfl) ?_
        refine lv_bipush (v := zI 14) hx hb dL_machine_141 (by decide +kernel) ?_
        refine lv_iload hx hb dL_machine_143 (lv_at hl 0 rfl) ?_
        refine lv_iconst (v := zI 0) hx hb dL_machine_145 (by decide +kernel) ?_
        refine lv_iconst (v := zI 0) hx hb dL_machine_146 (by decide +kernel) ?_
        obtain ⟨r118, s119, s120, k121, hf⟩ := zb3_some hf
        refine ycSi (As := [.ref q1, .ref q2, .int (zI 14), .int (zI v117), .int (zI 0), .int (zI 0)]) (rest := []) hx hb hml hown hts hl.1 hK (hX.kept hG.2.2.2.2.1) hNc hG.1 (yG_fw hG) hG.2.2.2 (c_L_both hst k121) zk_t3_28 zk_t3_29 zk_t1_0 zk_t3_30 hd_L_both rfl ⟨rfl, rfl, Nat.le_of_ble_eq_true rfl, Nat.le_of_ble_eq_true rfl⟩ ⟨Nat.le_of_ble_eq_true rfl, Nat.le_of_ble_eq_true rfl⟩ rfl (Nat.le_of_ble_eq_true rfl) dL_machine_147 (fun r u H locs hp hW9 hz hk9 hS => ?_)
        have hG := yG_w hG hW9 hp.2 hz hS
        have hr9 := hp.1
        subst hr9
        refine lv_istore (lv' := [(9, .int (zI r118)), (8, .int (zI v117)), (7, .int (zI v69)), (6, .int (zI r64)), (5, .int (zI r58)), (0, .ref q1), (1, .ref q2), (2, .ref qd), (3, .int (zI p3)), (4, .int (zI p4))]) hx hb dL_machine_150 hl (by decide) rfl (fun ls hl => ?_)
        refine lv_aload_n hx hb dL_machine_152 rfl (lv_at hl 7 rfl) ?_
        refine lv_iconst (v := zI 5) hx hb dL_machine_153 (by decide +kernel) ?_
        refine lv_dup2_11 hx hb dL_machine_154 rfl rfl ?_
        refine ygld hx hb hK hG (by decide) dL_machine_155 ?_
        refine lv_iload hx hb dL_machine_156 (lv_at hl 0 rfl) ?_
        refine lz_iadd hx hb dL_machine_158 ?_
        obtain ⟨a122, ea122, hf⟩ := zlt_some hf
        refine ygst hx hb hK hG (by decide) dL_machine_159 (fun H locs hG => ?_)
        rw [← ea122] at hG
        refine lv_aload_n hx hb dL_machine_160 rfl (lv_at hl 7 rfl) ?_
        refine lv_bipush (v := zI 22) hx hb dL_machine_161 (by decide +kernel) ?_
        refine lv_iload hx hb dL_machine_163 (lv_at hl 3 rfl) ?_
        refine lz_iadd hx hb dL_machine_165 ?_
        obtain ⟨k123, hf⟩ := zck_some hf
        refine ygld hx hb hK hG k123 dL_machine_166 ?_
        refine lv_iconst (v := zI (-1)) hx hb dL_machine_167 (by decide +kernel) ?_
        obtain ⟨k124, hf⟩ := zck_some hf
        refine lz_icmp_ne (tgt := 175) hx hb ⟨k124, by decide⟩ dL_machine_168 (by decide) (fun c125 => ?_) (fun c125 => ?_)
        · replace hf := (if_neg c125).symm.trans hf
          refine lv_iconst (v := zI 0) hx hb dL_machine_175 (by decide +kernel) ?_
          refine W.widen (Nat.le_of_ble_eq_true rfl) (Nat.le_of_ble_eq_true rfl) (J176 s119 s120 a122 r64 v69 v117 r118 0 _ _ _ _ hG _ (lv_sub hl [5, 7, 3, 2, 1, 0] rfl) hf)
        · replace hf := (if_pos c125).symm.trans hf
          refine lv_iconst (v := zI 1) hx hb dL_machine_171 (by decide +kernel) ?_
          refine lv_goto (tgt := 176) hx hb dL_machine_172 (by decide) ?_
          refine W.widen (Nat.le_of_ble_eq_true rfl) (Nat.le_of_ble_eq_true rfl) (J176 s119 s120 a122 r64 v69 v117 r118 1 _ _ _ _ hG _ (lv_sub hl [5, 7, 3, 2, 1, 0] rfl) hf)
    · replace hf := (if_pos c63).symm.trans hf
      refine W.widen (Nat.le_of_ble_eq_true rfl) (Nat.le_of_ble_eq_true rfl) (J20 S1 S2 dv p4 _ _ _ _ hG _ (lv_sub hl [1, 2, 3, 5] rfl) hf)
