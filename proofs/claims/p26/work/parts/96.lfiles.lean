abbrev rmL_files : Room := { frames := 11, cells := 14, slots := 8396, locals := 264 }
theorem hd_L_files : yL_files.cls ≠ "java/lang/invoke/MethodHandle" ∧ yL_files.cls ≠ "java/lang/invoke/VarHandle" ∧ (parseMethodDescriptor yL_files.desc).map (fun d => d.parameters.length) = some 5 := by decide +kernel
set_option maxHeartbeats 4000000 in
set_option maxRecDepth 100000 in
theorem c_L_files {l : Launch} (hst : l.stackTraces = false) {D : va_G} {cI cZ cF cL cD : ClassId} {q1 q2 qd sz : Nat} {E1 E2 : Nat → Prop} {S1 : yS} {S2 : yS} {dv : Int → Int} {p3 : Int} {p4 : Int} {R0 : Int} {R_S1 : yS} {R_S2 : yS} {R_dv : Int → Int} (hf : f_L_files S1 S2 dv p3 p4 = some (R0, R_S1, R_S2, R_dv)) :
    Met l yL_files (Cond.code yL_files cL_files 12 (some .boolean) :: wsL_law) rmL_files (yPc D (zT cI cZ cF cL cD) sz (yA E1 E2 qd sz) (yW D cI cZ cF q1 E1 S1 q2 E2 S2 qd dv) [.ref q1, .ref q2, .ref qd, .int (zI p3), .int (zI p4)]) (yQLi D cI cZ cF q1 E1 q2 E2 qd sz (fun r => r = zI R0) R_S1 R_S2 R_dv) 14 8396 (yA E1 E2 qd sz) := by
  refine yMet0 (by decide) (Nat.le_of_ble_eq_true rfl) ?_
  intro p e s m args below meth c Q hx hb hr hlocks hml hown hts hK hX hNc hsz hQ hW9 hS9 ls hl
  subst hsz
  have hG := yG_in hW9 hS9
  have hl : lv_has ls 12 [(0, .ref q1), (1, .ref q2), (2, .ref qd), (3, .int (zI p3)), (4, .int (zI p4))] := hl
  have J309 : ∀ (S1 : yS) (S2 : yS) (dv : Int → Int) (x6 : Int) (s0 : Int) (F1 F2 : Nat → Prop) (H : Heap) (locs : List Loc) (hG : yG D cI cZ cF q1 F1 S1 q2 F2 S2 qd dv E1 E2 s.heap H locs) (ls : Array Slot) (hl : lv_has ls 12 [(2, .ref qd), (6, .int (zI x6))]), f_L_files_309 S1 S2 dv x6 s0 = some (R0, R_S1, R_S2, R_dv) → W p l e rmL_files s m args below meth c H locs 14 8396 Q (F0 m 309 ls [.int (zI s0)]) := by
    intro S1 S2 dv x6 s0 F1 F2 H locs hG ls hl hf
    unfold f_L_files_309 at hf
    refine lv_istore (lv' := [(9, .int (zI s0)), (2, .ref qd), (6, .int (zI x6))]) hx hb dL_files_309 hl (by decide) rfl (fun ls hl => ?_)
    refine lv_aload_n hx hb dL_files_311 rfl (lv_at hl 1 rfl) ?_
    refine lv_iconst (v := zI 2) hx hb dL_files_312 (by decide +kernel) ?_
    refine lv_iload hx hb dL_files_313 (lv_at hl 2 rfl) ?_
    obtain ⟨a1, ea1, hf⟩ := zlt_some hf
    refine ygst hx hb hK hG (by decide) dL_files_315 (fun H locs hG => ?_)
    rw [← ea1] at hG
    refine lv_iload hx hb dL_files_316 (lv_at hl 0 rfl) ?_
    obtain ⟨k2, hf⟩ := zck_some hf
    cases hf
    exact yretz hx hb hr hlocks hQ hG rfl ⟨Nat.le_of_ble_eq_true rfl, Nat.le_of_ble_eq_true rfl⟩ (z_nar _ k2) dL_files_318
  have J308 : ∀ (S1 : yS) (S2 : yS) (dv : Int → Int) (x6 : Int) (F1 F2 : Nat → Prop) (H : Heap) (locs : List Loc) (hG : yG D cI cZ cF q1 F1 S1 q2 F2 S2 qd dv E1 E2 s.heap H locs) (ls : Array Slot) (hl : lv_has ls 12 [(2, .ref qd), (6, .int (zI x6))]), f_L_files_308 S1 S2 dv x6 = some (R0, R_S1, R_S2, R_dv) → W p l e rmL_files s m args below meth c H locs 14 8396 Q (F0 m 308 ls []) := by
    intro S1 S2 dv x6 F1 F2 H locs hG ls hl hf
    unfold f_L_files_308 at hf
    refine lv_iconst (v := zI 0) hx hb dL_files_308 (by decide +kernel) ?_
    refine W.widen (Nat.le_of_ble_eq_true rfl) (Nat.le_of_ble_eq_true rfl) (J309 S1 S2 dv x6 0 _ _ _ _ hG _ (lv_sub hl [0, 1] rfl) hf)
  have J304 : ∀ (S1 : yS) (S2 : yS) (dv : Int → Int) (x6 : Int) (F1 F2 : Nat → Prop) (H : Heap) (locs : List Loc) (hG : yG D cI cZ cF q1 F1 S1 q2 F2 S2 qd dv E1 E2 s.heap H locs) (ls : Array Slot) (hl : lv_has ls 12 [(2, .ref qd), (6, .int (zI x6))]), f_L_files_304 S1 S2 dv x6 = some (R0, R_S1, R_S2, R_dv) → W p l e rmL_files s m args below meth c H locs 14 8396 Q (F0 m 304 ls []) := by
    intro S1 S2 dv x6 F1 F2 H locs hG ls hl hf
    unfold f_L_files_304 at hf
    refine lv_iconst (v := zI 1) hx hb dL_files_304 (by decide +kernel) ?_
    refine lv_goto (tgt := 309) hx hb dL_files_305 (by decide) ?_
    refine W.widen (Nat.le_of_ble_eq_true rfl) (Nat.le_of_ble_eq_true rfl) (J309 S1 S2 dv x6 1 _ _ _ _ hG _ (lv_sub hl [0, 1] rfl) hf)
  have J301 : ∀ (S1 : yS) (S2 : yS) (dv : Int → Int) (x6 : Int) (s0 : Int) (s1 : Int) (F1 F2 : Nat → Prop) (H : Heap) (locs : List Loc) (hG : yG D cI cZ cF q1 F1 S1 q2 F2 S2 qd dv E1 E2 s.heap H locs) (ls : Array Slot) (hl : lv_has ls 12 [(2, .ref qd), (6, .int (zI x6))]), f_L_files_301 S1 S2 dv x6 s0 s1 = some (R0, R_S1, R_S2, R_dv) → W p l e rmL_files s m args below meth c H locs 14 8396 Q (F0 m 301 ls [.int (zI s1), .int (zI s0)]) := by
    intro S1 S2 dv x6 s0 s1 F1 F2 H locs hG ls hl hf
    unfold f_L_files_301 at hf
    obtain ⟨k3, hf⟩ := zck_some hf
    refine lz_icmp_ne (tgt := 308) hx hb k3 dL_files_301 (by decide) (fun c4 => ?_) (fun c4 => ?_)
    · replace hf := (if_neg c4).symm.trans hf
      refine W.widen (Nat.le_of_ble_eq_true rfl) (Nat.le_of_ble_eq_true rfl) (J308 S1 S2 dv x6 _ _ _ _ hG _ (lv_sub hl [0, 1] rfl) hf)
    · replace hf := (if_pos c4).symm.trans hf
      refine W.widen (Nat.le_of_ble_eq_true rfl) (Nat.le_of_ble_eq_true rfl) (J304 S1 S2 dv x6 _ _ _ _ hG _ (lv_sub hl [0, 1] rfl) hf)
  have J288 : ∀ (S1 : yS) (S2 : yS) (dv : Int → Int) (x6 : Int) (s0 : Int) (F1 F2 : Nat → Prop) (H : Heap) (locs : List Loc) (hG : yG D cI cZ cF q1 F1 S1 q2 F2 S2 qd dv E1 E2 s.heap H locs) (ls : Array Slot) (hl : lv_has ls 12 [(0, .ref q1), (2, .ref qd), (6, .int (zI x6))]), f_L_files_288 S1 S2 dv x6 s0 = some (R0, R_S1, R_S2, R_dv) → W p l e rmL_files s m args below meth c H locs 14 8396 Q (F0 m 288 ls [.int (zI s0)]) := by
    intro S1 S2 dv x6 s0 F1 F2 H locs hG ls hl hf
    unfold f_L_files_288 at hf
    refine lv_aload_n hx hb dL_files_288 rfl (lv_at hl 0 rfl) ?_
    obtain ⟨y5, ey5, hf⟩ := zlt_some hf
    refine ycVi (C := RX6) (As := []) (rest := [.int (zI s0)]) hx hb hml hown hts hl.1 hK (hX.kept hG.2.2.2.2.1) hNc hG.1.1 (yG_f1 hG) hG.2.2.2 (yc_fault) zk_t2_223 zk_t2_224 zk_t2_225 zk_t1_1 zk_t2_226 hd_X6_fault rfl ⟨rfl, rfl, Nat.le_of_ble_eq_true rfl, Nat.le_of_ble_eq_true rfl⟩ ⟨Nat.le_of_ble_eq_true rfl, Nat.le_of_ble_eq_true rfl⟩ (yOb_recv hK hG.1.1) rfl (Nat.le_of_ble_eq_true rfl) dL_files_289 (fun r F9 H locs hp hO hz hk9 hS => ?_)
    have hG := yG_1 hG hO hp.2 hz hk9 hS
    have hr9 := hp.1
    rw [← ey5] at hr9
    subst hr9
    refine lv_iconst (v := zI (-1)) hx hb dL_files_292 (by decide +kernel) ?_
    obtain ⟨k6, hf⟩ := zck_some hf
    refine lz_icmp_ne (tgt := 300) hx hb ⟨k6, by decide⟩ dL_files_293 (by decide) (fun c7 => ?_) (fun c7 => ?_)
    · replace hf := (if_neg c7).symm.trans hf
      refine lv_iconst (v := zI 0) hx hb dL_files_300 (by decide +kernel) ?_
      refine W.widen (Nat.le_of_ble_eq_true rfl) (Nat.le_of_ble_eq_true rfl) (J301 S1 S2 dv x6 s0 0 _ _ _ _ hG _ (lv_sub hl [1, 2] rfl) hf)
    · replace hf := (if_pos c7).symm.trans hf
      refine lv_iconst (v := zI 1) hx hb dL_files_296 (by decide +kernel) ?_
      refine lv_goto (tgt := 301) hx hb dL_files_297 (by decide) ?_
      refine W.widen (Nat.le_of_ble_eq_true rfl) (Nat.le_of_ble_eq_true rfl) (J301 S1 S2 dv x6 s0 1 _ _ _ _ hG _ (lv_sub hl [1, 2] rfl) hf)
  have J206 : ∀ (S1 : yS) (S2 : yS) (dv : Int → Int) (F1 F2 : Nat → Prop) (H : Heap) (locs : List Loc) (hG : yG D cI cZ cF q1 F1 S1 q2 F2 S2 qd dv E1 E2 s.heap H locs) (ls : Array Slot) (hl : lv_has ls 12 [(0, .ref q1), (2, .ref qd)]), f_L_files_206 S1 S2 dv = some (R0, R_S1, R_S2, R_dv) → W p l e rmL_files s m args below meth c H locs 14 8396 Q (F0 m 206 ls []) := by
    intro S1 S2 dv F1 F2 H locs hG ls hl hf
    unfold f_L_files_206 at hf
    refine lv_aload_n hx hb dL_files_206 rfl (lv_at hl 0 rfl) ?_
    obtain ⟨y8, ey8, hf⟩ := zlt_some hf
    refine ycVi (C := RX6) (As := []) (rest := []) hx hb hml hown hts hl.1 hK (hX.kept hG.2.2.2.2.1) hNc hG.1.1 (yG_f1 hG) hG.2.2.2 (yc_fault) zk_t2_223 zk_t2_224 zk_t2_225 zk_t1_1 zk_t2_226 hd_X6_fault rfl ⟨rfl, rfl, Nat.le_of_ble_eq_true rfl, Nat.le_of_ble_eq_true rfl⟩ ⟨Nat.le_of_ble_eq_true rfl, Nat.le_of_ble_eq_true rfl⟩ (yOb_recv hK hG.1.1) rfl (Nat.le_of_ble_eq_true rfl) dL_files_207 (fun r F9 H locs hp hO hz hk9 hS => ?_)
    have hG := yG_1 hG hO hp.2 hz hk9 hS
    have hr9 := hp.1
    rw [← ey8] at hr9
    subst hr9
    refine lv_aload_n hx hb dL_files_210 rfl (lv_at hl 1 rfl) ?_
    refine lv_iconst (v := zI 2) hx hb dL_files_211 (by decide +kernel) ?_
    refine ygld hx hb hK hG (by decide) dL_files_212 ?_
    obtain ⟨k9, hf⟩ := zck_some hf
    refine lz_icmp_gt (tgt := 220) hx hb k9 dL_files_213 (by decide) (fun c10 => ?_) (fun c10 => ?_)
    · replace hf := (if_pos c10).symm.trans hf
      refine lv_iconst (v := zI 0) hx hb dL_files_220 (by decide +kernel) ?_
      cases hf
      exact yretz hx hb hr hlocks hQ hG rfl ⟨Nat.le_of_ble_eq_true rfl, Nat.le_of_ble_eq_true rfl⟩ (z_nar _ (Or.inl rfl)) dL_files_221
    · replace hf := (if_neg c10).symm.trans hf
      refine lv_iconst (v := zI 1) hx hb dL_files_216 (by decide +kernel) ?_
      refine lv_goto (tgt := 221) hx hb dL_files_217 (by decide) ?_
      cases hf
      exact yretz hx hb hr hlocks hQ hG rfl ⟨Nat.le_of_ble_eq_true rfl, Nat.le_of_ble_eq_true rfl⟩ (z_nar _ (Or.inr rfl)) dL_files_221
  have J203 : ∀ (S1 : yS) (S2 : yS) (dv : Int → Int) (s0 : Int) (s1 : Int) (F1 F2 : Nat → Prop) (H : Heap) (locs : List Loc) (hG : yG D cI cZ cF q1 F1 S1 q2 F2 S2 qd dv E1 E2 s.heap H locs) (ls : Array Slot) (hl : lv_has ls 12 [(0, .ref q1), (2, .ref qd)]), f_L_files_203 S1 S2 dv s0 s1 = some (R0, R_S1, R_S2, R_dv) → W p l e rmL_files s m args below meth c H locs 14 8396 Q (F0 m 203 ls [.int (zI s1), .int (zI s0)]) := by
    intro S1 S2 dv s0 s1 F1 F2 H locs hG ls hl hf
    unfold f_L_files_203 at hf
    obtain ⟨k11, hf⟩ := zck_some hf
    refine lz_icmp_ne (tgt := 220) hx hb k11 dL_files_203 (by decide) (fun c12 => ?_) (fun c12 => ?_)
    · replace hf := (if_neg c12).symm.trans hf
      refine lv_iconst (v := zI 0) hx hb dL_files_220 (by decide +kernel) ?_
      cases hf
      exact yretz hx hb hr hlocks hQ hG rfl ⟨Nat.le_of_ble_eq_true rfl, Nat.le_of_ble_eq_true rfl⟩ (z_nar _ (Or.inl rfl)) dL_files_221
    · replace hf := (if_pos c12).symm.trans hf
      refine W.widen (Nat.le_of_ble_eq_true rfl) (Nat.le_of_ble_eq_true rfl) (J206 S1 S2 dv _ _ _ _ hG _ (lv_sub hl [0, 1] rfl) hf)
  have J191 : ∀ (S1 : yS) (S2 : yS) (dv : Int → Int) (x7 : Int) (x8 : Int) (s0 : Int) (F1 F2 : Nat → Prop) (H : Heap) (locs : List Loc) (hG : yG D cI cZ cF q1 F1 S1 q2 F2 S2 qd dv E1 E2 s.heap H locs) (ls : Array Slot) (hl : lv_has ls 12 [(0, .ref q1), (2, .ref qd), (7, .int (zI x7)), (8, .int (zI x8))]), f_L_files_191 S1 S2 dv x7 x8 s0 = some (R0, R_S1, R_S2, R_dv) → W p l e rmL_files s m args below meth c H locs 14 8396 Q (F0 m 191 ls [.int (zI s0)]) := by
    intro S1 S2 dv x7 x8 s0 F1 F2 H locs hG ls hl hf
    unfold f_L_files_191 at hf
    refine lv_iload hx hb dL_files_191 (lv_at hl 2 rfl) ?_
    refine lv_iload hx hb dL_files_193 (lv_at hl 3 rfl) ?_
    obtain ⟨k13, hf⟩ := zck_some hf
    refine lz_icmp_ne (tgt := 202) hx hb k13 dL_files_195 (by decide) (fun c14 => ?_) (fun c14 => ?_)
    · replace hf := (if_neg c14).symm.trans hf
      refine lv_iconst (v := zI 0) hx hb dL_files_202 (by decide +kernel) ?_
      refine W.widen (Nat.le_of_ble_eq_true rfl) (Nat.le_of_ble_eq_true rfl) (J203 S1 S2 dv s0 0 _ _ _ _ hG _ (lv_sub hl [0, 1] rfl) hf)
    · replace hf := (if_pos c14).symm.trans hf
      refine lv_iconst (v := zI 1) hx hb dL_files_198 (by decide +kernel) ?_
      refine lv_goto (tgt := 203) hx hb dL_files_199 (by decide) ?_
      refine W.widen (Nat.le_of_ble_eq_true rfl) (Nat.le_of_ble_eq_true rfl) (J203 S1 S2 dv s0 1 _ _ _ _ hG _ (lv_sub hl [0, 1] rfl) hf)
  have J153 : ∀ (S1 : yS) (S2 : yS) (dv : Int → Int) (x6 : Int) (x7 : Int) (x8 : Int) (x10 : Int) (s0 : Int) (F1 F2 : Nat → Prop) (H : Heap) (locs : List Loc) (hG : yG D cI cZ cF q1 F1 S1 q2 F2 S2 qd dv E1 E2 s.heap H locs) (ls : Array Slot) (hl : lv_has ls 12 [(0, .ref q1), (2, .ref qd), (6, .int (zI x6)), (7, .int (zI x7)), (8, .int (zI x8)), (10, .int (zI x10))]), f_L_files_153 S1 S2 dv x6 x7 x8 x10 s0 = some (R0, R_S1, R_S2, R_dv) → W p l e rmL_files s m args below meth c H locs 14 8396 Q (F0 m 153 ls [.int (zI s0)]) := by
    intro S1 S2 dv x6 x7 x8 x10 s0 F1 F2 H locs hG ls hl hf
    unfold f_L_files_153 at hf
    refine lv_istore (lv' := [(11, .int (zI s0)), (0, .ref q1), (2, .ref qd), (6, .int (zI x6)), (7, .int (zI x7)), (8, .int (zI x8)), (10, .int (zI x10))]) hx hb dL_files_153 hl (by decide) rfl (fun ls hl => ?_)
    refine lv_iload hx hb dL_files_155 (lv_at hl 6 rfl) ?_
    refine lv_iload hx hb dL_files_157 (lv_at hl 5 rfl) ?_
    obtain ⟨k15, hf⟩ := zck_some hf
    refine lz_icmp_ne (tgt := 220) hx hb k15 dL_files_159 (by decide) (fun c16 => ?_) (fun c16 => ?_)
    · replace hf := (if_neg c16).symm.trans hf
      refine lv_iconst (v := zI 0) hx hb dL_files_220 (by decide +kernel) ?_
      cases hf
      exact yretz hx hb hr hlocks hQ hG rfl ⟨Nat.le_of_ble_eq_true rfl, Nat.le_of_ble_eq_true rfl⟩ (z_nar _ (Or.inl rfl)) dL_files_221
    · replace hf := (if_pos c16).symm.trans hf
      refine lv_aload_n hx hb dL_files_162 rfl (lv_at hl 1 rfl) ?_
      refine lv_iload hx hb dL_files_163 (lv_at hl 3 rfl) ?_
      obtain ⟨k17, hf⟩ := zck_some hf
      obtain ⟨y18, ey18, hf⟩ := zlt_some hf
      obtain ⟨k19, hf⟩ := zck_some hf
      refine ycVi (C := RX6) (As := [.int (zI x6)]) (rest := []) hx hb hml hown hts hl.1 hK (hX.kept hG.2.2.2.2.1) hNc hG.1.1 (yG_f1 hG) hG.2.2.2 (yn_byteAt k17 (by rw [← ey18]; exact k19)) zk_t2_204 zk_t2_205 zk_t2_206 zk_t1_1 zk_t2_207 hd_X6_byteAt rfl ⟨rfl, rfl, Nat.le_of_ble_eq_true rfl, Nat.le_of_ble_eq_true rfl⟩ ⟨Nat.le_of_ble_eq_true rfl, Nat.le_of_ble_eq_true rfl⟩ (yOb_recv hK hG.1.1) rfl (Nat.le_of_ble_eq_true rfl) dL_files_165 (fun r F9 H locs hp hO hz hk9 hS => ?_)
      have hG := yG_1 hG hO hp.2 hz hk9 hS
      have hr9 := hp.1
      rw [← ey18] at hr9
      subst hr9
      refine lv_iload hx hb dL_files_168 (lv_at hl 4 rfl) ?_
      obtain ⟨k20, hf⟩ := zck_some hf
      refine lz_icmp_ne (tgt := 220) hx hb k20 dL_files_170 (by decide) (fun c21 => ?_) (fun c21 => ?_)
      · replace hf := (if_neg c21).symm.trans hf
        refine lv_iconst (v := zI 0) hx hb dL_files_220 (by decide +kernel) ?_
        cases hf
        exact yretz hx hb hr hlocks hQ hG rfl ⟨Nat.le_of_ble_eq_true rfl, Nat.le_of_ble_eq_true rfl⟩ (z_nar _ (Or.inl rfl)) dL_files_221
      · replace hf := (if_pos c21).symm.trans hf
        refine lv_iload hx hb dL_files_173 (lv_at hl 0 rfl) ?_
        obtain ⟨k22, hf⟩ := zck_some hf
        refine lz_if_eq (tgt := 206) hx hb k22 dL_files_175 (by decide) (fun c23 => ?_) (fun c23 => ?_)
        · replace hf := (if_pos c23).symm.trans hf
          refine W.widen (Nat.le_of_ble_eq_true rfl) (Nat.le_of_ble_eq_true rfl) (J206 S1 S2 dv _ _ _ _ hG _ (lv_sub hl [1, 2] rfl) hf)
        · replace hf := (if_neg c23).symm.trans hf
          refine lv_aload_n hx hb dL_files_178 rfl (lv_at hl 1 rfl) ?_
          obtain ⟨y24, ey24, hf⟩ := zlt_some hf
          refine ycVi (C := RX6) (As := []) (rest := []) hx hb hml hown hts hl.1 hK (hX.kept hG.2.2.2.2.1) hNc hG.1.1 (yG_f1 hG) hG.2.2.2 (yc_fault) zk_t2_223 zk_t2_224 zk_t2_225 zk_t1_1 zk_t2_226 hd_X6_fault rfl ⟨rfl, rfl, Nat.le_of_ble_eq_true rfl, Nat.le_of_ble_eq_true rfl⟩ ⟨Nat.le_of_ble_eq_true rfl, Nat.le_of_ble_eq_true rfl⟩ (yOb_recv hK hG.1.1) rfl (Nat.le_of_ble_eq_true rfl) dL_files_179 (fun r F9 H locs hp hO hz hk9 hS => ?_)
          have hG := yG_1 hG hO hp.2 hz hk9 hS
          have hr9 := hp.1
          rw [← ey24] at hr9
          subst hr9
          refine lv_iconst (v := zI (-1)) hx hb dL_files_182 (by decide +kernel) ?_
          obtain ⟨k25, hf⟩ := zck_some hf
          refine lz_icmp_ne (tgt := 190) hx hb ⟨k25, by decide⟩ dL_files_183 (by decide) (fun c26 => ?_) (fun c26 => ?_)
          · replace hf := (if_neg c26).symm.trans hf
            refine lv_iconst (v := zI 0) hx hb dL_files_190 (by decide +kernel) ?_
            refine W.widen (Nat.le_of_ble_eq_true rfl) (Nat.le_of_ble_eq_true rfl) (J191 S1 S2 dv x7 x8 0 _ _ _ _ hG _ (lv_sub hl [1, 2, 4, 5] rfl) hf)
          · replace hf := (if_pos c26).symm.trans hf
            refine lv_iconst (v := zI 1) hx hb dL_files_186 (by decide +kernel) ?_
            refine lv_goto (tgt := 191) hx hb dL_files_187 (by decide) ?_
            refine W.widen (Nat.le_of_ble_eq_true rfl) (Nat.le_of_ble_eq_true rfl) (J191 S1 S2 dv x7 x8 1 _ _ _ _ hG _ (lv_sub hl [1, 2, 4, 5] rfl) hf)
  have J20 : ∀ (S1 : yS) (S2 : yS) (dv : Int → Int) (x4 : Int) (F1 F2 : Nat → Prop) (H : Heap) (locs : List Loc) (hG : yG D cI cZ cF q1 F1 S1 q2 F2 S2 qd dv E1 E2 s.heap H locs) (ls : Array Slot) (hl : lv_has ls 12 [(0, .ref q1), (1, .ref q2), (2, .ref qd), (4, .int (zI x4))]), f_L_files_20 S1 S2 dv x4 = some (R0, R_S1, R_S2, R_dv) → W p l e rmL_files s m args below meth c H locs 0 0 Q (F0 m 20 ls []) := by
    intro S1 S2 dv x4 F1 F2 H locs hG ls hl hf
    unfold f_L_files_20 at hf
    refine lv_iload hx hb dL_files_20 (lv_at hl 3 rfl) ?_
    refine lv_iconst (v := zI 2) hx hb dL_files_22 (by decide +kernel) ?_
    obtain ⟨r27, k28, hf⟩ := zb1_some hf
    refine ycSi (As := [.int (zI x4), .int (zI 2)]) (rest := []) (rm := rmL_some) (mc1 := 0) (ms1 := 0) (Bp := fun _ => True) (U := Unit) (post := fun (r : Int32) (_ : Unit) => r = zI r27) (Bq := fun _ _ => True) hx hb hml hown hts hl.1 hK (hX.kept hG.2.2.2.2.1) hNc trivial (yG_f0 hG) hG.2.2.2 (c_L_some k28) zk_t1_182 zk_t1_183 zk_t1_0 zk_t1_184 hd_L_some rfl ⟨rfl, rfl, Nat.le_of_ble_eq_true rfl, Nat.le_of_ble_eq_true rfl⟩ ⟨Nat.le_of_ble_eq_true rfl, Nat.le_of_ble_eq_true rfl⟩ rfl (Nat.le_of_ble_eq_true rfl) dL_files_23 (fun r u H locs hp _ hz hk9 hS => ?_)
    have hG := yG_0 hG hz hk9 hS
    subst hp
    refine lv_istore (lv' := [(6, .int (zI r27)), (0, .ref q1), (1, .ref q2), (2, .ref qd), (4, .int (zI x4))]) hx hb dL_files_26 hl (by decide) rfl (fun ls hl => ?_)
    refine lv_aload_n hx hb dL_files_28 rfl (lv_at hl 3 rfl) ?_
    refine lv_iconst (v := zI 2) hx hb dL_files_29 (by decide +kernel) ?_
    refine lv_aload_n hx hb dL_files_30 rfl (lv_at hl 1 rfl) ?_
    refine lv_aload_n hx hb dL_files_31 rfl (lv_at hl 2 rfl) ?_
    refine lv_bipush (v := zI 9) hx hb dL_files_32 (by decide +kernel) ?_
    refine lv_iload hx hb dL_files_34 (lv_at hl 0 rfl) ?_
    refine lv_iconst (v := zI 0) hx hb dL_files_36 (by decide +kernel) ?_
    refine lv_iconst (v := zI 0) hx hb dL_files_37 (by decide +kernel) ?_
    obtain ⟨r29, s30, s31, k32, hf⟩ := zb3_some hf
    refine ycSi (As := [.ref q1, .ref q2, .int (zI 9), .int (zI r27), .int (zI 0), .int (zI 0)]) (rest := [.int (zI 2), .ref qd]) hx hb hml hown hts hl.1 hK (hX.kept hG.2.2.2.2.1) hNc hG.1 (yG_fw hG) hG.2.2.2 (c_L_both hst k32) zk_t3_28 zk_t3_29 zk_t1_0 zk_t3_30 hd_L_both rfl ⟨rfl, rfl, Nat.le_of_ble_eq_true rfl, Nat.le_of_ble_eq_true rfl⟩ ⟨Nat.le_of_ble_eq_true rfl, Nat.le_of_ble_eq_true rfl⟩ rfl (Nat.le_of_ble_eq_true rfl) dL_files_38 (fun r u H locs hp hW9 hz hk9 hS => ?_)
    have hG := yG_w hG hW9 hp.2 hz hS
    have hr9 := hp.1
    subst hr9
    obtain ⟨a33, ea33, hf⟩ := zlt_some hf
    refine ygst hx hb hK hG (by decide) dL_files_41 (fun H locs hG => ?_)
    rw [← ea33] at hG
    refine lv_aload_n hx hb dL_files_42 rfl (lv_at hl 3 rfl) ?_
    refine lv_iconst (v := zI 2) hx hb dL_files_43 (by decide +kernel) ?_
    refine ygld hx hb hK hG (by decide) dL_files_44 ?_
    refine lv_iconst (v := zI 2) hx hb dL_files_45 (by decide +kernel) ?_
    refine lv_iload hx hb dL_files_46 (lv_at hl 0 rfl) ?_
    refine lz_iadd hx hb dL_files_48 ?_
    refine lv_aload_n hx hb dL_files_49 rfl (lv_at hl 1 rfl) ?_
    obtain ⟨y34, ey34, hf⟩ := zlt_some hf
    refine ycVi (C := RX6) (As := []) (rest := [.int (zI (2 + r27)), .int (zI (a33 2))]) hx hb hml hown hts hl.1 hK (hX.kept hG.2.2.2.2.1) hNc hG.1.1 (yG_f1 hG) hG.2.2.2 (yc_commands) zk_t1_189 zk_t1_190 zk_t1_191 zk_t1_1 zk_t1_192 hd_X6_commands rfl ⟨rfl, rfl, Nat.le_of_ble_eq_true rfl, Nat.le_of_ble_eq_true rfl⟩ ⟨Nat.le_of_ble_eq_true rfl, Nat.le_of_ble_eq_true rfl⟩ (yOb_recv hK hG.1.1) rfl (Nat.le_of_ble_eq_true rfl) dL_files_50 (fun r F9 H locs hp hO hz hk9 hS => ?_)
    have hG := yG_1 hG hO hp.2 hz hk9 hS
    have hr9 := hp.1
    rw [← ey34] at hr9
    subst hr9
    refine lz_imul hx hb dL_files_53 ?_
    refine lv_iconst (v := zI 1) hx hb dL_files_54 (by decide +kernel) ?_
    refine lz_iadd hx hb dL_files_55 ?_
    obtain ⟨k35, hf⟩ := zck_some hf
    refine lz_icmp_lt (tgt := 83) hx hb k35 dL_files_56 (by decide) (fun c36 => ?_) (fun c36 => ?_)
    · replace hf := (if_pos c36).symm.trans hf
      refine lv_iconst (v := zI 0) hx hb dL_files_83 (by decide +kernel) ?_
      cases hf
      exact yretz hx hb hr hlocks hQ hG rfl ⟨Nat.le_of_ble_eq_true rfl, Nat.le_of_ble_eq_true rfl⟩ (z_nar _ (Or.inl rfl)) dL_files_84
    · replace hf := (if_neg c36).symm.trans hf
      refine lv_aload_n hx hb dL_files_59 rfl (lv_at hl 1 rfl) ?_
      obtain ⟨y37, ey37, hf⟩ := zlt_some hf
      refine ycVi (C := RX6) (As := []) (rest := []) hx hb hml hown hts hl.1 hK (hX.kept hG.2.2.2.2.1) hNc hG.1.1 (yG_f1 hG) hG.2.2.2 (yc_fault) zk_t2_223 zk_t2_224 zk_t2_225 zk_t1_1 zk_t2_226 hd_X6_fault rfl ⟨rfl, rfl, Nat.le_of_ble_eq_true rfl, Nat.le_of_ble_eq_true rfl⟩ ⟨Nat.le_of_ble_eq_true rfl, Nat.le_of_ble_eq_true rfl⟩ (yOb_recv hK hG.1.1) rfl (Nat.le_of_ble_eq_true rfl) dL_files_60 (fun r F9 H locs hp hO hz hk9 hS => ?_)
      have hG := yG_1 hG hO hp.2 hz hk9 hS
      have hr9 := hp.1
      rw [← ey37] at hr9
      subst hr9
      refine lv_iconst (v := zI (-1)) hx hb dL_files_63 (by decide +kernel) ?_
      obtain ⟨k38, hf⟩ := zck_some hf
      refine lz_icmp_ne (tgt := 83) hx hb ⟨k38, by decide⟩ dL_files_64 (by decide) (fun c39 => ?_) (fun c39 => ?_)
      · replace hf := (if_neg c39).symm.trans hf
        refine lv_iconst (v := zI 0) hx hb dL_files_83 (by decide +kernel) ?_
        cases hf
        exact yretz hx hb hr hlocks hQ hG rfl ⟨Nat.le_of_ble_eq_true rfl, Nat.le_of_ble_eq_true rfl⟩ (z_nar _ (Or.inl rfl)) dL_files_84
      · replace hf := (if_pos c39).symm.trans hf
        refine lv_aload_n hx hb dL_files_67 rfl (lv_at hl 1 rfl) ?_
        obtain ⟨y40, ey40, hf⟩ := zlt_some hf
        refine ycVi (C := RX6) (As := []) (rest := []) hx hb hml hown hts hl.1 hK (hX.kept hG.2.2.2.2.1) hNc hG.1.1 (yG_f1 hG) hG.2.2.2 (yc_reads) zk_t3_21 zk_t3_22 zk_t3_23 zk_t1_1 zk_t3_24 hd_X6_reads rfl ⟨rfl, rfl, Nat.le_of_ble_eq_true rfl, Nat.le_of_ble_eq_true rfl⟩ ⟨Nat.le_of_ble_eq_true rfl, Nat.le_of_ble_eq_true rfl⟩ (yOb_recv hK hG.1.1) rfl (Nat.le_of_ble_eq_true rfl) dL_files_68 (fun r F9 H locs hp hO hz hk9 hS => ?_)
        have hG := yG_1 hG hO hp.2 hz hk9 hS
        have hr9 := hp.1
        rw [← ey40] at hr9
        subst hr9
        refine lv_aload_n hx hb dL_files_71 rfl (lv_at hl 1 rfl) ?_
        refine lv_iconst (v := zI 0) hx hb dL_files_72 (by decide +kernel) ?_
        obtain ⟨y41, ey41, hf⟩ := zlt_some hf
        obtain ⟨k42, hf⟩ := zck_some hf
        refine ycVi (C := RX6) (As := [.int (zI 0)]) (rest := [.int (zI y40)]) hx hb hml hown hts hl.1 hK (hX.kept hG.2.2.2.2.1) hNc hG.1.1 (yG_f1 hG) hG.2.2.2 (yn_count (by decide) (by rw [← ey41]; exact k42)) zk_t3_177 zk_t3_178 zk_t3_179 zk_t1_1 zk_t3_180 hd_X6_count rfl ⟨rfl, rfl, Nat.le_of_ble_eq_true rfl, Nat.le_of_ble_eq_true rfl⟩ ⟨Nat.le_of_ble_eq_true rfl, Nat.le_of_ble_eq_true rfl⟩ (yOb_recv hK hG.1.1) rfl (Nat.le_of_ble_eq_true rfl) dL_files_73 (fun r F9 H locs hp hO hz hk9 hS => ?_)
        have hG := yG_1 hG hO hp.2 hz hk9 hS
        have hr9 := hp.1
        rw [← ey41] at hr9
        subst hr9
        obtain ⟨k43, hf⟩ := zck_some hf
        refine lz_icmp_ne (tgt := 83) hx hb k43 dL_files_76 (by decide) (fun c44 => ?_) (fun c44 => ?_)
        · replace hf := (if_neg c44).symm.trans hf
          refine lv_iconst (v := zI 0) hx hb dL_files_83 (by decide +kernel) ?_
          cases hf
          exact yretz hx hb hr hlocks hQ hG rfl ⟨Nat.le_of_ble_eq_true rfl, Nat.le_of_ble_eq_true rfl⟩ (z_nar _ (Or.inl rfl)) dL_files_84
        · replace hf := (if_pos c44).symm.trans hf
          refine lv_iconst (v := zI 1) hx hb dL_files_79 (by decide +kernel) ?_
          refine lv_goto (tgt := 84) hx hb dL_files_80 (by decide) ?_
          cases hf
          exact yretz hx hb hr hlocks hQ hG rfl ⟨Nat.le_of_ble_eq_true rfl, Nat.le_of_ble_eq_true rfl⟩ (z_nar _ (Or.inr rfl)) dL_files_84
  unfold f_L_files at hf
  refine lv_iload_n hx hb dL_files_0 rfl (lv_at hl 3 rfl) ?_
  refine lv_bipush (v := zI 6) hx hb dL_files_1 (by decide +kernel) ?_
  obtain ⟨r45, k46, hf⟩ := zb1_some hf
  refine ycSi (As := [.int (zI p3), .int (zI 6)]) (rest := []) (rm := rmL_some) (mc1 := 0) (ms1 := 0) (Bp := fun _ => True) (U := Unit) (post := fun (r : Int32) (_ : Unit) => r = zI r45) (Bq := fun _ _ => True) hx hb hml hown hts hl.1 hK (hX.kept hG.2.2.2.2.1) hNc trivial (yG_f0 hG) hG.2.2.2 (c_L_some k46) zk_t1_182 zk_t1_183 zk_t1_0 zk_t1_184 hd_L_some rfl ⟨rfl, rfl, Nat.le_of_ble_eq_true rfl, Nat.le_of_ble_eq_true rfl⟩ ⟨Nat.le_of_ble_eq_true rfl, Nat.le_of_ble_eq_true rfl⟩ rfl (Nat.le_of_ble_eq_true rfl) dL_files_3 (fun r u H locs hp _ hz hk9 hS => ?_)
  have hG := yG_0 hG hz hk9 hS
  subst hp
  refine lv_istore (lv' := [(5, .int (zI r45)), (0, .ref q1), (1, .ref q2), (2, .ref qd), (3, .int (zI p3)), (4, .int (zI p4))]) hx hb dL_files_6 hl (by decide) rfl (fun ls hl => ?_)
  refine lv_iload hx hb dL_files_8 (lv_at hl 0 rfl) ?_
  refine lv_iconst (v := zI 2) hx hb dL_files_10 (by decide +kernel) ?_
  obtain ⟨k47, hf⟩ := zck_some hf
  refine lz_icmp_lt (tgt := 20) hx hb ⟨k47, by decide⟩ dL_files_11 (by decide) (fun c48 => ?_) (fun c48 => ?_)
  · replace hf := (if_pos c48).symm.trans hf
    refine W.widen (Nat.le_of_ble_eq_true rfl) (Nat.le_of_ble_eq_true rfl) (J20 S1 S2 dv p4 _ _ _ _ hG _ (lv_sub hl [1, 2, 3, 5] rfl) hf)
  · replace hf := (if_neg c48).symm.trans hf
    refine lv_aload_n hx hb dL_files_14 rfl (lv_at hl 3 rfl) ?_
    refine lv_iconst (v := zI 2) hx hb dL_files_15 (by decide +kernel) ?_
    refine ygld hx hb hK hG (by decide) dL_files_16 ?_
    obtain ⟨k49, hf⟩ := zck_some hf
    refine lz_if_ne (tgt := 85) hx hb k49 dL_files_17 (by decide) (fun c50 => ?_) (fun c50 => ?_)
    · replace hf := (if_neg c50).symm.trans hf
      refine lv_iload hx hb dL_files_85 (lv_at hl 0 rfl) ?_
      refine lv_iconst (v := zI 5) hx hb dL_files_87 (by decide +kernel) ?_
      obtain ⟨k51, hf⟩ := zck_some hf
      refine lz_icmp_ge (tgt := 222) hx hb ⟨k51, by decide⟩ dL_files_88 (by decide) (fun c52 => ?_) (fun c52 => ?_)
      · replace hf := (if_pos c52).symm.trans hf
        refine lv_iload hx hb dL_files_222 (lv_at hl 5 rfl) ?_
        refine lv_aload_n hx hb dL_files_224 rfl (lv_at hl 3 rfl) ?_
        refine lv_iconst (v := zI 2) hx hb dL_files_225 (by decide +kernel) ?_
        refine ygld hx hb hK hG (by decide) dL_files_226 ?_
        refine lv_iconst (v := zI 1) hx hb dL_files_227 (by decide +kernel) ?_
        refine lz_iadd hx hb dL_files_228 ?_
        obtain ⟨r53, k54, hf⟩ := zb1_some hf
        refine ycSi (As := [.int (zI p4), .int (zI ((dv 2) + 1))]) (rest := []) (rm := rmL_some) (mc1 := 0) (ms1 := 0) (Bp := fun _ => True) (U := Unit) (post := fun (r : Int32) (_ : Unit) => r = zI r53) (Bq := fun _ _ => True) hx hb hml hown hts hl.1 hK (hX.kept hG.2.2.2.2.1) hNc trivial (yG_f0 hG) hG.2.2.2 (c_L_some k54) zk_t1_182 zk_t1_183 zk_t1_0 zk_t1_184 hd_L_some rfl ⟨rfl, rfl, Nat.le_of_ble_eq_true rfl, Nat.le_of_ble_eq_true rfl⟩ ⟨Nat.le_of_ble_eq_true rfl, Nat.le_of_ble_eq_true rfl⟩ rfl (Nat.le_of_ble_eq_true rfl) dL_files_229 (fun r u H locs hp _ hz hk9 hS => ?_)
        have hG := yG_0 hG hz hk9 hS
        subst hp
        refine lv_istore (lv' := [(6, .int (zI r53)), (5, .int (zI r45)), (0, .ref q1), (1, .ref q2), (2, .ref qd), (3, .int (zI p3)), (4, .int (zI p4))]) hx hb dL_files_232 hl (by decide) rfl (fun ls hl => ?_)
        refine lv_aload_n hx hb dL_files_234 rfl (lv_at hl 2 rfl) ?_
        obtain ⟨y55, ey55, hf⟩ := zlt_some hf
        refine ycVi (C := RX6) (As := []) (rest := []) hx hb hml hown hts hl.1 hK (hX.kept hG.2.2.2.2.1) hNc hG.1.1 (yG_f1 hG) hG.2.2.2 (yc_fault) zk_t2_223 zk_t2_224 zk_t2_225 zk_t1_1 zk_t2_226 hd_X6_fault rfl ⟨rfl, rfl, Nat.le_of_ble_eq_true rfl, Nat.le_of_ble_eq_true rfl⟩ ⟨Nat.le_of_ble_eq_true rfl, Nat.le_of_ble_eq_true rfl⟩ (yOb_recv hK hG.1.1) rfl (Nat.le_of_ble_eq_true rfl) dL_files_235 (fun r F9 H locs hp hO hz hk9 hS => ?_)
        have hG := yG_1 hG hO hp.2 hz hk9 hS
        have hr9 := hp.1
        rw [← ey55] at hr9
        subst hr9
        refine lv_istore (lv' := [(7, .int (zI y55)), (6, .int (zI r53)), (5, .int (zI r45)), (0, .ref q1), (1, .ref q2), (2, .ref qd), (3, .int (zI p3)), (4, .int (zI p4))]) hx hb dL_files_238 hl (by decide) rfl (fun ls hl => ?_)
        refine lv_aload_n hx hb dL_files_240 rfl (lv_at hl 3 rfl) ?_
        refine lv_aload_n hx hb dL_files_241 rfl (lv_at hl 4 rfl) ?_
        refine lv_bipush (v := zI 12) hx hb dL_files_242 (by decide +kernel) ?_
        refine lv_iload hx hb dL_files_244 (lv_at hl 1 rfl) ?_
        refine lv_iconst (v := zI 0) hx hb dL_files_246 (by decide +kernel) ?_
        refine lv_iconst (v := zI 0) hx hb dL_files_247 (by decide +kernel) ?_
        obtain ⟨r56, s57, s58, k59, hf⟩ := zb3_some hf
        refine ycSi (As := [.ref q1, .ref q2, .int (zI 12), .int (zI r53), .int (zI 0), .int (zI 0)]) (rest := []) hx hb hml hown hts hl.1 hK (hX.kept hG.2.2.2.2.1) hNc hG.1 (yG_fw hG) hG.2.2.2 (c_L_both hst k59) zk_t3_28 zk_t3_29 zk_t1_0 zk_t3_30 hd_L_both rfl ⟨rfl, rfl, Nat.le_of_ble_eq_true rfl, Nat.le_of_ble_eq_true rfl⟩ ⟨Nat.le_of_ble_eq_true rfl, Nat.le_of_ble_eq_true rfl⟩ rfl (Nat.le_of_ble_eq_true rfl) dL_files_248 (fun r u H locs hp hW9 hz hk9 hS => ?_)
        have hG := yG_w hG hW9 hp.2 hz hS
        have hr9 := hp.1
        subst hr9
        refine lv_istore (lv' := [(8, .int (zI r56)), (7, .int (zI y55)), (6, .int (zI r53)), (5, .int (zI r45)), (0, .ref q1), (1, .ref q2), (2, .ref qd), (3, .int (zI p3)), (4, .int (zI p4))]) hx hb dL_files_251 hl (by decide) rfl (fun ls hl => ?_)
        refine lv_iload hx hb dL_files_253 (lv_at hl 0 rfl) ?_
        refine lv_aload_n hx hb dL_files_255 rfl (lv_at hl 6 rfl) ?_
        refine lv_iconst (v := zI 2) hx hb dL_files_256 (by decide +kernel) ?_
        refine ygld hx hb hK hG (by decide) dL_files_257 ?_
        obtain ⟨k60, hf⟩ := zck_some hf
        refine lz_icmp_ne (tgt := 308) hx hb k60 dL_files_258 (by decide) (fun c61 => ?_) (fun c61 => ?_)
        · replace hf := (if_neg c61).symm.trans hf
          refine W.widen (Nat.le_of_ble_eq_true rfl) (Nat.le_of_ble_eq_true rfl) (J308 s57 s58 dv r53 _ _ _ _ hG _ (lv_sub hl [6, 2] rfl) hf)
        · replace hf := (if_pos c61).symm.trans hf
          refine lv_aload_n hx hb dL_files_261 rfl (lv_at hl 4 rfl) ?_
          obtain ⟨y62, ey62, hf⟩ := zlt_some hf
          refine ycVi (C := RX6) (As := []) (rest := []) hx hb hml hown hts hl.1 hK (hX.kept hG.2.2.2.2.1) hNc hG.1.1 (yG_f1 hG) hG.2.2.2 (yc_fault) zk_t2_223 zk_t2_224 zk_t2_225 zk_t1_1 zk_t2_226 hd_X6_fault rfl ⟨rfl, rfl, Nat.le_of_ble_eq_true rfl, Nat.le_of_ble_eq_true rfl⟩ ⟨Nat.le_of_ble_eq_true rfl, Nat.le_of_ble_eq_true rfl⟩ (yOb_recv hK hG.1.1) rfl (Nat.le_of_ble_eq_true rfl) dL_files_262 (fun r F9 H locs hp hO hz hk9 hS => ?_)
          have hG := yG_1 hG hO hp.2 hz hk9 hS
          have hr9 := hp.1
          rw [← ey62] at hr9
          subst hr9
          refine lv_iload hx hb dL_files_265 (lv_at hl 2 rfl) ?_
          obtain ⟨k63, hf⟩ := zck_some hf
          refine lz_icmp_gt (tgt := 308) hx hb k63 dL_files_267 (by decide) (fun c64 => ?_) (fun c64 => ?_)
          · replace hf := (if_pos c64).symm.trans hf
            refine W.widen (Nat.le_of_ble_eq_true rfl) (Nat.le_of_ble_eq_true rfl) (J308 s57 s58 dv r53 _ _ _ _ hG _ (lv_sub hl [6, 2] rfl) hf)
          · replace hf := (if_neg c64).symm.trans hf
            refine lv_iload hx hb dL_files_270 (lv_at hl 1 rfl) ?_
            refine lv_iconst (v := zI (-1)) hx hb dL_files_272 (by decide +kernel) ?_
            obtain ⟨k65, hf⟩ := zck_some hf
            refine lz_icmp_ne (tgt := 304) hx hb ⟨k65, by decide⟩ dL_files_273 (by decide) (fun c66 => ?_) (fun c66 => ?_)
            · replace hf := (if_neg c66).symm.trans hf
              refine W.widen (Nat.le_of_ble_eq_true rfl) (Nat.le_of_ble_eq_true rfl) (J304 s57 s58 dv r53 _ _ _ _ hG _ (lv_sub hl [6, 2] rfl) hf)
            · replace hf := (if_pos c66).symm.trans hf
              refine lv_iload hx hb dL_files_276 (lv_at hl 2 rfl) ?_
              refine lv_iload hx hb dL_files_278 (lv_at hl 0 rfl) ?_
              obtain ⟨k67, hf⟩ := zck_some hf
              refine lz_icmp_ne (tgt := 287) hx hb k67 dL_files_280 (by decide) (fun c68 => ?_) (fun c68 => ?_)
              · replace hf := (if_neg c68).symm.trans hf
                refine lv_iconst (v := zI 0) hx hb dL_files_287 (by decide +kernel) ?_
                refine W.widen (Nat.le_of_ble_eq_true rfl) (Nat.le_of_ble_eq_true rfl) (J288 s57 s58 dv r53 0 _ _ _ _ hG _ (lv_sub hl [4, 6, 2] rfl) hf)
              · replace hf := (if_pos c68).symm.trans hf
                refine lv_iconst (v := zI 1) hx hb dL_files_283 (by decide +kernel) ?_
                refine lv_goto (tgt := 288) hx hb dL_files_284 (by decide) ?_
                refine W.widen (Nat.le_of_ble_eq_true rfl) (Nat.le_of_ble_eq_true rfl) (J288 s57 s58 dv r53 1 _ _ _ _ hG _ (lv_sub hl [4, 6, 2] rfl) hf)
      · replace hf := (if_neg c52).symm.trans hf
        refine lv_iload hx hb dL_files_91 (lv_at hl 5 rfl) ?_
        refine lv_aload_n hx hb dL_files_93 rfl (lv_at hl 3 rfl) ?_
        refine lv_iconst (v := zI 2) hx hb dL_files_94 (by decide +kernel) ?_
        refine ygld hx hb hK hG (by decide) dL_files_95 ?_
        obtain ⟨r69, k70, hf⟩ := zb1_some hf
        refine ycSi (As := [.int (zI p4), .int (zI (dv 2))]) (rest := []) (rm := rmL_some) (mc1 := 0) (ms1 := 0) (Bp := fun _ => True) (U := Unit) (post := fun (r : Int32) (_ : Unit) => r = zI r69) (Bq := fun _ _ => True) hx hb hml hown hts hl.1 hK (hX.kept hG.2.2.2.2.1) hNc trivial (yG_f0 hG) hG.2.2.2 (c_L_some k70) zk_t1_182 zk_t1_183 zk_t1_0 zk_t1_184 hd_L_some rfl ⟨rfl, rfl, Nat.le_of_ble_eq_true rfl, Nat.le_of_ble_eq_true rfl⟩ ⟨Nat.le_of_ble_eq_true rfl, Nat.le_of_ble_eq_true rfl⟩ rfl (Nat.le_of_ble_eq_true rfl) dL_files_96 (fun r u H locs hp _ hz hk9 hS => ?_)
        have hG := yG_0 hG hz hk9 hS
        subst hp
        refine lv_istore (lv' := [(6, .int (zI r69)), (5, .int (zI r45)), (0, .ref q1), (1, .ref q2), (2, .ref qd), (3, .int (zI p3)), (4, .int (zI p4))]) hx hb dL_files_99 hl (by decide) rfl (fun ls hl => ?_)
        refine lv_iload hx hb dL_files_101 (lv_at hl 6 rfl) ?_
        refine lv_bipush (v := zI 11) hx hb dL_files_103 (by decide +kernel) ?_
        refine lz_ysr hx hb dL_files_105 ?_
        refine lv_sipush (v := zI 256) hx hb dL_files_106 (by decide +kernel) ?_
        obtain ⟨r71, k72, hf⟩ := zb1_some hf
        refine ycSi (As := [.int (zI (ysr p4 11)), .int (zI 256)]) (rest := []) (rm := rmL_some) (mc1 := 0) (ms1 := 0) (Bp := fun _ => True) (U := Unit) (post := fun (r : Int32) (_ : Unit) => r = zI r71) (Bq := fun _ _ => True) hx hb hml hown hts hl.1 hK (hX.kept hG.2.2.2.2.1) hNc trivial (yG_f0 hG) hG.2.2.2 (c_L_some k72) zk_t1_182 zk_t1_183 zk_t1_0 zk_t1_184 hd_L_some rfl ⟨rfl, rfl, Nat.le_of_ble_eq_true rfl, Nat.le_of_ble_eq_true rfl⟩ ⟨Nat.le_of_ble_eq_true rfl, Nat.le_of_ble_eq_true rfl⟩ rfl (Nat.le_of_ble_eq_true rfl) dL_files_109 (fun r u H locs hp _ hz hk9 hS => ?_)
        have hG := yG_0 hG hz hk9 hS
        subst hp
        refine lv_istore (lv' := [(7, .int (zI r71)), (6, .int (zI r69)), (5, .int (zI r45)), (0, .ref q1), (1, .ref q2), (2, .ref qd), (3, .int (zI p3)), (4, .int (zI p4))]) hx hb dL_files_112 hl (by decide) rfl (fun ls hl => ?_)
        refine lv_aload_n hx hb dL_files_114 rfl (lv_at hl 3 rfl) ?_
        refine lv_iload hx hb dL_files_115 (lv_at hl 1 rfl) ?_
        obtain ⟨k73, hf⟩ := zck_some hf
        obtain ⟨y74, ey74, hf⟩ := zlt_some hf
        obtain ⟨k75, hf⟩ := zck_some hf
        refine ycVi (C := RX6) (As := [.int (zI r69)]) (rest := []) hx hb hml hown hts hl.1 hK (hX.kept hG.2.2.2.2.1) hNc hG.1.1 (yG_f1 hG) hG.2.2.2 (yn_byteAt k73 (by rw [← ey74]; exact k75)) zk_t2_204 zk_t2_205 zk_t2_206 zk_t1_1 zk_t2_207 hd_X6_byteAt rfl ⟨rfl, rfl, Nat.le_of_ble_eq_true rfl, Nat.le_of_ble_eq_true rfl⟩ ⟨Nat.le_of_ble_eq_true rfl, Nat.le_of_ble_eq_true rfl⟩ (yOb_recv hK hG.1.1) rfl (Nat.le_of_ble_eq_true rfl) dL_files_117 (fun r F9 H locs hp hO hz hk9 hS => ?_)
        have hG := yG_1 hG hO hp.2 hz hk9 hS
        have hr9 := hp.1
        rw [← ey74] at hr9
        subst hr9
        obtain ⟨v76, ev76, hf⟩ := zlt_some hf
        refine lz_nm ev76 ?_
        refine lv_istore (lv' := [(8, .int (zI v76)), (7, .int (zI r71)), (6, .int (zI r69)), (5, .int (zI r45)), (0, .ref q1), (1, .ref q2), (2, .ref qd), (3, .int (zI p3)), (4, .int (zI p4))]) hx hb dL_files_120 hl (by decide) rfl (fun ls hl => ?_)
        refine lv_aload_n hx hb dL_files_122 rfl (lv_at hl 4 rfl) ?_
        obtain ⟨y77, ey77, hf⟩ := zlt_some hf
        refine ycVi (C := RX6) (As := []) (rest := []) hx hb hml hown hts hl.1 hK (hX.kept hG.2.2.2.2.1) hNc hG.1.1 (yG_f1 hG) hG.2.2.2 (yc_fault) zk_t2_223 zk_t2_224 zk_t2_225 zk_t1_1 zk_t2_226 hd_X6_fault rfl ⟨rfl, rfl, Nat.le_of_ble_eq_true rfl, Nat.le_of_ble_eq_true rfl⟩ ⟨Nat.le_of_ble_eq_true rfl, Nat.le_of_ble_eq_true rfl⟩ (yOb_recv hK hG.1.1) rfl (Nat.le_of_ble_eq_true rfl) dL_files_123 (fun r F9 H locs hp hO hz hk9 hS => ?_)
        have hG := yG_1 hG hO hp.2 hz hk9 hS
        have hr9 := hp.1
        rw [← ey77] at hr9
        subst hr9
        refine lv_istore (lv' := [(9, .int (zI y77)), (8, .int (zI v76)), (7, .int (zI r71)), (6, .int (zI r69)), (5, .int (zI r45)), (0, .ref q1), (1, .ref q2), (2, .ref qd), (3, .int (zI p3)), (4, .int (zI p4))]) hx hb dL_files_126 hl (by decide) rfl (fun ls hl => ?_)
        refine lv_aload_n hx hb dL_files_128 rfl (lv_at hl 5 rfl) ?_
        refine lv_aload_n hx hb dL_files_129 rfl (lv_at hl 6 rfl) ?_
        refine lv_bipush (v := zI 11) hx hb dL_files_130 (by decide +kernel) ?_
        refine lv_iload hx hb dL_files_132 (lv_at hl 3 rfl) ?_
        refine lv_iload hx hb dL_files_134 (lv_at hl 2 rfl) ?_
        refine lv_iconst (v := zI 0) hx hb dL_files_136 (by decide +kernel) ?_
        obtain ⟨r78, s79, s80, k81, hf⟩ := zb3_some hf
        refine ycSi (As := [.ref q1, .ref q2, .int (zI 11), .int (zI r69), .int (zI r71), .int (zI 0)]) (rest := []) hx hb hml hown hts hl.1 hK (hX.kept hG.2.2.2.2.1) hNc hG.1 (yG_fw hG) hG.2.2.2 (c_L_both hst k81) zk_t3_28 zk_t3_29 zk_t1_0 zk_t3_30 hd_L_both rfl ⟨rfl, rfl, Nat.le_of_ble_eq_true rfl, Nat.le_of_ble_eq_true rfl⟩ ⟨Nat.le_of_ble_eq_true rfl, Nat.le_of_ble_eq_true rfl⟩ rfl (Nat.le_of_ble_eq_true rfl) dL_files_137 (fun r u H locs hp hW9 hz hk9 hS => ?_)
        have hG := yG_w hG hW9 hp.2 hz hS
        have hr9 := hp.1
        subst hr9
        refine lv_istore (lv' := [(10, .int (zI r78)), (9, .int (zI y77)), (8, .int (zI v76)), (7, .int (zI r71)), (6, .int (zI r69)), (5, .int (zI r45)), (0, .ref q1), (1, .ref q2), (2, .ref qd), (3, .int (zI p3)), (4, .int (zI p4))]) hx hb dL_files_140 hl (by decide) rfl (fun ls hl => ?_)
        refine lv_iload hx hb dL_files_142 (lv_at hl 1 rfl) ?_
        refine lv_iconst (v := zI (-1)) hx hb dL_files_144 (by decide +kernel) ?_
        obtain ⟨k82, hf⟩ := zck_some hf
        refine lz_icmp_ne (tgt := 152) hx hb ⟨k82, by decide⟩ dL_files_145 (by decide) (fun c83 => ?_) (fun c83 => ?_)
        · replace hf := (if_neg c83).symm.trans hf
          refine lv_iconst (v := zI 0) hx hb dL_files_152 (by decide +kernel) ?_
          refine W.widen (Nat.le_of_ble_eq_true rfl) (Nat.le_of_ble_eq_true rfl) (J153 s79 s80 dv r69 r71 v76 r78 0 _ _ _ _ hG _ (lv_sub hl [6, 8, 4, 3, 2, 0] rfl) hf)
        · replace hf := (if_pos c83).symm.trans hf
          refine lv_iconst (v := zI 1) hx hb dL_files_148 (by decide +kernel) ?_
          refine lv_goto (tgt := 153) hx hb dL_files_149 (by decide) ?_
          refine W.widen (Nat.le_of_ble_eq_true rfl) (Nat.le_of_ble_eq_true rfl) (J153 s79 s80 dv r69 r71 v76 r78 1 _ _ _ _ hG _ (lv_sub hl [6, 8, 4, 3, 2, 0] rfl) hf)
    · replace hf := (if_pos c50).symm.trans hf
      refine W.widen (Nat.le_of_ble_eq_true rfl) (Nat.le_of_ble_eq_true rfl) (J20 S1 S2 dv p4 _ _ _ _ hG _ (lv_sub hl [1, 2, 3, 5] rfl) hf)
