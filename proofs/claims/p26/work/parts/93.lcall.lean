abbrev rmL_some : Room := { frames := 0, cells := 0, slots := 0, locals := 0 }
theorem hd_L_some : yL_some.cls ≠ "java/lang/invoke/MethodHandle" ∧ yL_some.cls ≠ "java/lang/invoke/VarHandle" ∧ (parseMethodDescriptor yL_some.desc).map (fun d => d.parameters.length) = some 2 := by decide +kernel
set_option maxHeartbeats 4000000 in
set_option maxRecDepth 100000 in
theorem c_L_some {l : Launch} {D : va_G} {cI cZ cF cL cD : ClassId} {sz : Nat} {p0 : Int} {p1 : Int} {R0 : Int} (hf : f_L_some p0 p1 = some R0) :
    Met l yL_some (Cond.code yL_some cL_some 2 (some .int) :: wsL_law) rmL_some (yPc D (zT cI cZ cF cL cD) sz (fun x => sz ≤ x) (fun _ => True) [.int (zI p0), .int (zI p1)]) (va_Qi (fun (r : Int32) (_ : Unit) => r = zI R0) (fun _ _ => True) (fun x => sz ≤ x)) 0 0 (fun x => sz ≤ x) := by
  refine yMet0 (by decide) (Nat.le_of_ble_eq_true rfl) ?_
  intro p e s m args below meth c Q hx hb hr hlocks hml hown hts hK hX hNc hsz hQ _ hG ls hl
  subst hsz
  have hl : lv_has ls 2 [(0, .int (zI p0)), (1, .int (zI p1))] := hl
  unfold f_L_some at hf
  refine lv_iload_n hx hb dL_some_0 rfl (lv_at hl 0 rfl) ?_
  refine lv_iconst (v := zI 1) hx hb dL_some_1 (by decide +kernel) ?_
  refine lz_yus hx hb dL_some_2 ?_
  refine lv_iload_n hx hb dL_some_3 rfl (lv_at hl 1 rfl) ?_
  obtain ⟨k1, hf⟩ := zck_some hf
  refine lz_irem hx hb k1 dL_some_4 ?_
  cases hf
  exact yret0 hx hb hr hlocks hQ hG rfl dL_some_5
abbrev rmL_size : Room := { frames := 0, cells := 0, slots := 0, locals := 0 }
theorem hd_L_size : yL_size.cls ≠ "java/lang/invoke/MethodHandle" ∧ yL_size.cls ≠ "java/lang/invoke/VarHandle" ∧ (parseMethodDescriptor yL_size.desc).map (fun d => d.parameters.length) = some 1 := by decide +kernel
set_option maxHeartbeats 4000000 in
set_option maxRecDepth 100000 in
theorem c_L_size {l : Launch} {D : va_G} {cI cZ cF cL cD : ClassId} {sz : Nat} {p0 : Int} {R0 : Int} (hf : f_L_size p0 = some R0) :
    Met l yL_size (Cond.code yL_size cL_size 1 (some .int) :: wsL_law) rmL_size (yPc D (zT cI cZ cF cL cD) sz (fun x => sz ≤ x) (fun _ => True) [.int (zI p0)]) (va_Qi (fun (r : Int32) (_ : Unit) => r = zI R0) (fun _ _ => True) (fun x => sz ≤ x)) 0 0 (fun x => sz ≤ x) := by
  refine yMet0 (by decide) (Nat.le_of_ble_eq_true rfl) ?_
  intro p e s m args below meth c Q hx hb hr hlocks hml hown hts hK hX hNc hsz hQ _ hG ls hl
  subst hsz
  have hl : lv_has ls 1 [(0, .int (zI p0))] := hl
  unfold f_L_size at hf
  refine lv_iload_n hx hb dL_size_0 rfl (lv_at hl 0 rfl) ?_
  obtain ⟨k1, hf⟩ := zck_some hf
  refine lz_if_ge (tgt := 9) hx hb k1 dL_size_1 (by decide) (fun c2 => ?_) (fun c2 => ?_)
  · replace hf := (if_pos c2).symm.trans hf
    refine lv_iload_n hx hb dL_size_9 rfl (lv_at hl 0 rfl) ?_
    cases hf
    exact yret0 hx hb hr hlocks hQ hG rfl dL_size_10
  · replace hf := (if_neg c2).symm.trans hf
    refine lv_iload_n hx hb dL_size_4 rfl (lv_at hl 0 rfl) ?_
    refine lz_ineg hx hb dL_size_5 ?_
    refine lv_goto (tgt := 10) hx hb dL_size_6 (by decide) ?_
    cases hf
    exact yret0 hx hb hr hlocks hQ hG rfl dL_size_10
abbrev rmL_does : Room := { frames := 8, cells := 7, slots := 4198, locals := 189 }
theorem hd_L_does : yL_does.cls ≠ "java/lang/invoke/MethodHandle" ∧ yL_does.cls ≠ "java/lang/invoke/VarHandle" ∧ (parseMethodDescriptor yL_does.desc).map (fun d => d.parameters.length) = some 5 := by decide +kernel
set_option maxHeartbeats 4000000 in
set_option maxRecDepth 100000 in
theorem c_L_does {l : Launch} (hst : l.stackTraces = false) {D : va_G} {cI cZ cF cL cD : ClassId} {q1 q2 qd sz : Nat} {E1 E2 : Nat → Prop} {S1 : yS} {p1 : Int} {p2 : Int} {p3 : Int} {p4 : Int} {S2 : yS} {dv : Int → Int} {Rt : Int} {R0 : Int} {R_S1 : yS} (hf : f_L_does S1 p1 p2 p3 p4 = some (Rt, R0, R_S1)) :
    vx_Met l yL_does (Cond.code yL_does cL_does 5 (some .int) :: wsL_law) rmL_does (yPc D (zT cI cZ cF cL cD) sz (yA E1 E2 qd sz) (yW D cI cZ cF q1 E1 S1 q2 E2 S2 qd dv) [.ref q1, .int (zI p1), .int (zI p2), .int (zI p3), .int (zI p4)]) (yQLi D cI cZ cF q1 E1 q2 E2 qd sz (fun r => Rt = 0 ∧ r = zI R0) R_S1 S2 dv) (yXL D cI cZ cF q1 E1 q2 E2 qd sz Rt R_S1 S2 dv) 7 4198 (yA E1 E2 qd sz) := by
  refine yMetX (by decide) (Nat.le_of_ble_eq_true rfl) ?_
  intro p e s m args below meth c Q hx hb hr hlocks hml hown hts hnh hK hX hNc hsz hQ hW9 hS9 ls hl
  subst hsz
  have hG := yG_in hW9 hS9
  have hl : lv_has ls 5 [(0, .ref q1), (1, .int (zI p1)), (2, .int (zI p2)), (3, .int (zI p3)), (4, .int (zI p4))] := hl
  have J98 : ∀ (S1 : yS) (s1 : Int) (s2 : Int) (s3 : Int) (F1 F2 : Nat → Prop) (H : Heap) (locs : List Loc) (hG : yG D cI cZ cF q1 F1 S1 q2 F2 S2 qd dv E1 E2 s.heap H locs) (ls : Array Slot) (hl : lv_has ls 5 []), f_L_does_98 S1 s1 s2 s3 = some (Rt, R0, R_S1) → W p l e rmL_does s m args below meth c H locs 0 0 Q (F0 m 98 ls [.int (zI s3), .int (zI s2), .int (zI s1), .ref q1]) := by
    intro S1 s1 s2 s3 F1 F2 H locs hG ls hl hf
    unfold f_L_does_98 at hf
    obtain ⟨k1, hf⟩ := zck_some hf
    obtain ⟨k2, hf⟩ := zck_some hf
    obtain ⟨k3, hf⟩ := zck_some hf
    obtain ⟨y4, ey4, hf⟩ := zlt_some hf
    refine ycxVi (C := RX6) (As := [.int (zI s1), .int (zI s2), .int (zI s3)]) (rest := []) hx hb hml hown hts hl.1 hK (hX.kept hG.2.2.2.2.1) hNc hG.1.1 (yG_f1 hG) hG.2.2.2 (yc_field hst ⟨k2, k3⟩ k1) zk_t3_40 zk_t3_41 zk_t3_42 zk_t1_1 zk_t3_43 hd_X6_field rfl ⟨rfl, rfl, Nat.le_of_ble_eq_true rfl, Nat.le_of_ble_eq_true rfl⟩ ⟨Nat.le_of_ble_eq_true rfl, Nat.le_of_ble_eq_true rfl⟩ (yOb_recv hK hG.1.1) rfl (Nat.le_of_ble_eq_true rfl) dL_does_98 (fun E ce q9 F9 H locs hPo hE hO hz hk9 hS hce hcv hcl => ?_) (fun r F9 H locs hp hO hz hk9 hS => ?_)
    · replace hf := (if_pos (show ¬ y4.1 = 0 from by rw [ey4]; exact zEx_ne hE)).symm.trans hf
      have hG := yG_1 hG hO hPo hz hk9 hS
      cases hf
      exact yxout hQ hnh hlocks (by rw [ey4]; exact hG) (by rw [ey4]; exact hE) ⟨Nat.le_of_ble_eq_true rfl, Nat.le_of_ble_eq_true rfl⟩ hce hcv hcl
    replace hf := (if_neg (fun z => z (by rw [ey4]; exact hp.1.1))).symm.trans hf
    have hG := yG_1 hG hO hp.2 hz hk9 hS
    have hr9 := hp.1.2
    rw [← ey4] at hr9
    subst hr9
    rw [← ey4] at hG
    cases hf
    exact yretx hx hb hr hlocks hQ hG ⟨rfl, rfl⟩ ⟨Nat.le_of_ble_eq_true rfl, Nat.le_of_ble_eq_true rfl⟩ dL_does_101
  unfold f_L_does at hf
  refine lv_iload_n hx hb dL_does_0 rfl (lv_at hl 1 rfl) ?_
  obtain ⟨k5, hf⟩ := zck_some hf
  by_cases c6_0 : p1 = 0
  · replace hf := (if_pos c6_0).symm.trans hf
    refine lv_tableIn (tgt := 84) (off := 83) hx hb dL_does_1 (by rw [zI_toInt k5]; omega) (by rw [zI_toInt k5]; omega) (by rw [zI_toInt k5, c6_0]; rfl) (by decide) ?_
    refine lv_aload_n hx hb dL_does_84 rfl (lv_at hl 0 rfl) ?_
    refine lv_iload_n hx hb dL_does_85 rfl (lv_at hl 2 rfl) ?_
    refine lv_iload_n hx hb dL_does_86 rfl (lv_at hl 3 rfl) ?_
    refine lv_iload hx hb dL_does_87 (lv_at hl 4 rfl) ?_
    refine lv_iconst (v := zI 1) hx hb dL_does_89 (by decide +kernel) ?_
    obtain ⟨k7, hf⟩ := zck_some hf
    refine lz_icmp_ne (tgt := 97) hx hb ⟨k7, by decide⟩ dL_does_90 (by decide) (fun c8 => ?_) (fun c8 => ?_)
    · replace hf := (if_neg c8).symm.trans hf
      refine lv_iconst (v := zI 0) hx hb dL_does_97 (by decide +kernel) ?_
      refine W.widen (Nat.le_of_ble_eq_true rfl) (Nat.le_of_ble_eq_true rfl) (J98 S1 p2 p3 0 _ _ _ _ hG _ (lv_sub hl [] rfl) hf)
    · replace hf := (if_pos c8).symm.trans hf
      refine lv_iconst (v := zI 1) hx hb dL_does_93 (by decide +kernel) ?_
      refine lv_goto (tgt := 98) hx hb dL_does_94 (by decide) ?_
      refine W.widen (Nat.le_of_ble_eq_true rfl) (Nat.le_of_ble_eq_true rfl) (J98 S1 p2 p3 1 _ _ _ _ hG _ (lv_sub hl [] rfl) hf)
  replace hf := (if_neg c6_0).symm.trans hf
  by_cases c6_1 : p1 = 1
  · replace hf := (if_pos c6_1).symm.trans hf
    refine lv_tableIn (tgt := 102) (off := 101) hx hb dL_does_1 (by rw [zI_toInt k5]; omega) (by rw [zI_toInt k5]; omega) (by rw [zI_toInt k5, c6_1]; rfl) (by decide) ?_
    refine lv_aload_n hx hb dL_does_102 rfl (lv_at hl 0 rfl) ?_
    refine lv_iload_n hx hb dL_does_103 rfl (lv_at hl 2 rfl) ?_
    refine lv_iload_n hx hb dL_does_104 rfl (lv_at hl 3 rfl) ?_
    refine lv_iload hx hb dL_does_105 (lv_at hl 4 rfl) ?_
    obtain ⟨k9, hf⟩ := zck_some hf
    obtain ⟨k10, hf⟩ := zck_some hf
    obtain ⟨k11, hf⟩ := zck_some hf
    obtain ⟨y12, ey12, hf⟩ := zlt_some hf
    refine ycxVi (C := RX6) (As := [.int (zI p2), .int (zI p3), .int (zI p4)]) (rest := []) hx hb hml hown hts hl.1 hK (hX.kept hG.2.2.2.2.1) hNc hG.1.1 (yG_f1 hG) hG.2.2.2 (yc_corner hst ⟨k9, k10, k11⟩) zk_t3_144 zk_t3_145 zk_t3_146 zk_t1_1 zk_t3_147 hd_X6_corner rfl ⟨rfl, rfl, Nat.le_of_ble_eq_true rfl, Nat.le_of_ble_eq_true rfl⟩ ⟨Nat.le_of_ble_eq_true rfl, Nat.le_of_ble_eq_true rfl⟩ (yOb_recv hK hG.1.1) rfl (Nat.le_of_ble_eq_true rfl) dL_does_107 (fun E ce q9 F9 H locs hPo hE hO hz hk9 hS hce hcv hcl => ?_) (fun r F9 H locs hp hO hz hk9 hS => ?_)
    · replace hf := (if_pos (show ¬ y12.1 = 0 from by rw [ey12]; exact zEx_ne hE)).symm.trans hf
      have hG := yG_1 hG hO hPo hz hk9 hS
      cases hf
      exact yxout hQ hnh hlocks (by rw [ey12]; exact hG) (by rw [ey12]; exact hE) ⟨Nat.le_of_ble_eq_true rfl, Nat.le_of_ble_eq_true rfl⟩ hce hcv hcl
    replace hf := (if_neg (fun z => z (by rw [ey12]; exact hp.1.1))).symm.trans hf
    have hG := yG_1 hG hO hp.2 hz hk9 hS
    have hr9 := hp.1.2
    rw [← ey12] at hr9
    subst hr9
    rw [← ey12] at hG
    cases hf
    exact yretx hx hb hr hlocks hQ hG ⟨rfl, rfl⟩ ⟨Nat.le_of_ble_eq_true rfl, Nat.le_of_ble_eq_true rfl⟩ dL_does_110
  replace hf := (if_neg c6_1).symm.trans hf
  by_cases c6_2 : p1 = 2
  · replace hf := (if_pos c6_2).symm.trans hf
    refine lv_tableIn (tgt := 111) (off := 110) hx hb dL_does_1 (by rw [zI_toInt k5]; omega) (by rw [zI_toInt k5]; omega) (by rw [zI_toInt k5, c6_2]; rfl) (by decide) ?_
    refine lv_aload_n hx hb dL_does_111 rfl (lv_at hl 0 rfl) ?_
    refine lv_iload_n hx hb dL_does_112 rfl (lv_at hl 2 rfl) ?_
    refine lv_iload_n hx hb dL_does_113 rfl (lv_at hl 3 rfl) ?_
    obtain ⟨k13, hf⟩ := zck_some hf
    obtain ⟨k14, hf⟩ := zck_some hf
    obtain ⟨y15, ey15, hf⟩ := zlt_some hf
    refine ycxVv (C := RX6) (As := [.int (zI p2), .int (zI p3)]) (rest := []) hx hb hml hown hts hl.1 hK (hX.kept hG.2.2.2.2.1) hNc hG.1.1 (yG_f1 hG) hG.2.2.2 (yc_scale hst ⟨k13, k14⟩) zk_t3_158 zk_t3_159 zk_t3_160 zk_t1_1 zk_t3_161 hd_X6_scale rfl ⟨rfl, rfl, Nat.le_of_ble_eq_true rfl, Nat.le_of_ble_eq_true rfl⟩ ⟨Nat.le_of_ble_eq_true rfl, Nat.le_of_ble_eq_true rfl⟩ (yOb_recv hK hG.1.1) rfl (Nat.le_of_ble_eq_true rfl) dL_does_114 (fun E ce q9 F9 H locs hPo hE hO hz hk9 hS hce hcv hcl => ?_) (fun F9 H locs hp hO hz hk9 hS => ?_)
    · replace hf := (if_pos (show ¬ y15.1 = 0 from by rw [ey15]; exact zEx_ne hE)).symm.trans hf
      have hG := yG_1 hG hO hPo hz hk9 hS
      cases hf
      exact yxout hQ hnh hlocks (by rw [ey15]; exact hG) (by rw [ey15]; exact hE) ⟨Nat.le_of_ble_eq_true rfl, Nat.le_of_ble_eq_true rfl⟩ hce hcv hcl
    replace hf := (if_neg (fun z => z (by rw [ey15]; exact hp.1))).symm.trans hf
    have hG := yG_1 hG hO hp.2 hz hk9 hS
    rw [← ey15] at hG
    refine lv_iconst (v := zI 0) hx hb dL_does_117 (by decide +kernel) ?_
    cases hf
    exact yretx hx hb hr hlocks hQ hG ⟨rfl, rfl⟩ ⟨Nat.le_of_ble_eq_true rfl, Nat.le_of_ble_eq_true rfl⟩ dL_does_118
  replace hf := (if_neg c6_2).symm.trans hf
  by_cases c6_3 : p1 = 3
  · replace hf := (if_pos c6_3).symm.trans hf
    refine lv_tableIn (tgt := 119) (off := 118) hx hb dL_does_1 (by rw [zI_toInt k5]; omega) (by rw [zI_toInt k5]; omega) (by rw [zI_toInt k5, c6_3]; rfl) (by decide) ?_
    refine lv_aload_n hx hb dL_does_119 rfl (lv_at hl 0 rfl) ?_
    refine lv_iload_n hx hb dL_does_120 rfl (lv_at hl 2 rfl) ?_
    obtain ⟨k16, hf⟩ := zck_some hf
    obtain ⟨y17, ey17, hf⟩ := zlt_some hf
    refine ycxVi (C := RX6) (As := [.int (zI p2)]) (rest := []) hx hb hml hown hts hl.1 hK (hX.kept hG.2.2.2.2.1) hNc hG.1.1 (yG_f1 hG) hG.2.2.2 (yc_bound hst k16) zk_t3_172 zk_t3_173 zk_t3_174 zk_t1_1 zk_t3_175 hd_X6_bound rfl ⟨rfl, rfl, Nat.le_of_ble_eq_true rfl, Nat.le_of_ble_eq_true rfl⟩ ⟨Nat.le_of_ble_eq_true rfl, Nat.le_of_ble_eq_true rfl⟩ (yOb_recv hK hG.1.1) rfl (Nat.le_of_ble_eq_true rfl) dL_does_121 (fun E ce q9 F9 H locs hPo hE hO hz hk9 hS hce hcv hcl => ?_) (fun r F9 H locs hp hO hz hk9 hS => ?_)
    · replace hf := (if_pos (show ¬ y17.1 = 0 from by rw [ey17]; exact zEx_ne hE)).symm.trans hf
      have hG := yG_1 hG hO hPo hz hk9 hS
      cases hf
      exact yxout hQ hnh hlocks (by rw [ey17]; exact hG) (by rw [ey17]; exact hE) ⟨Nat.le_of_ble_eq_true rfl, Nat.le_of_ble_eq_true rfl⟩ hce hcv hcl
    replace hf := (if_neg (fun z => z (by rw [ey17]; exact hp.1.1))).symm.trans hf
    have hG := yG_1 hG hO hp.2 hz hk9 hS
    have hr9 := hp.1.2
    rw [← ey17] at hr9
    subst hr9
    rw [← ey17] at hG
    cases hf
    exact yretx hx hb hr hlocks hQ hG ⟨rfl, rfl⟩ ⟨Nat.le_of_ble_eq_true rfl, Nat.le_of_ble_eq_true rfl⟩ dL_does_124
  replace hf := (if_neg c6_3).symm.trans hf
  by_cases c6_4 : p1 = 4
  · replace hf := (if_pos c6_4).symm.trans hf
    refine lv_tableIn (tgt := 125) (off := 124) hx hb dL_does_1 (by rw [zI_toInt k5]; omega) (by rw [zI_toInt k5]; omega) (by rw [zI_toInt k5, c6_4]; rfl) (by decide) ?_
    refine lv_aload_n hx hb dL_does_125 rfl (lv_at hl 0 rfl) ?_
    refine lv_iload_n hx hb dL_does_126 rfl (lv_at hl 2 rfl) ?_
    refine lv_iload_n hx hb dL_does_127 rfl (lv_at hl 3 rfl) ?_
    obtain ⟨k18, hf⟩ := zck_some hf
    obtain ⟨k19, hf⟩ := zck_some hf
    obtain ⟨y20, ey20, hf⟩ := zlt_some hf
    refine ycxVi (C := RX6) (As := [.int (zI p2), .int (zI p3)]) (rest := []) hx hb hml hown hts hl.1 hK (hX.kept hG.2.2.2.2.1) hNc hG.1.1 (yG_f1 hG) hG.2.2.2 (yc_ofCommand hst ⟨k18, k19⟩) zk_t2_83 zk_t2_84 zk_t2_85 zk_t1_1 zk_t2_86 hd_X6_ofCommand rfl ⟨rfl, rfl, Nat.le_of_ble_eq_true rfl, Nat.le_of_ble_eq_true rfl⟩ ⟨Nat.le_of_ble_eq_true rfl, Nat.le_of_ble_eq_true rfl⟩ (yOb_recv hK hG.1.1) rfl (Nat.le_of_ble_eq_true rfl) dL_does_128 (fun E ce q9 F9 H locs hPo hE hO hz hk9 hS hce hcv hcl => ?_) (fun r F9 H locs hp hO hz hk9 hS => ?_)
    · replace hf := (if_pos (show ¬ y20.1 = 0 from by rw [ey20]; exact zEx_ne hE)).symm.trans hf
      have hG := yG_1 hG hO hPo hz hk9 hS
      cases hf
      exact yxout hQ hnh hlocks hG (by rw [ey20]; exact hE) ⟨Nat.le_of_ble_eq_true rfl, Nat.le_of_ble_eq_true rfl⟩ hce hcv hcl
    replace hf := (if_neg (fun z => z (by rw [ey20]; exact hp.1.1))).symm.trans hf
    have hG := yG_1 hG hO hp.2 hz hk9 hS
    have hr9 := hp.1.2
    rw [← ey20] at hr9
    subst hr9
    cases hf
    exact yretx hx hb hr hlocks hQ hG ⟨rfl, rfl⟩ ⟨Nat.le_of_ble_eq_true rfl, Nat.le_of_ble_eq_true rfl⟩ dL_does_131
  replace hf := (if_neg c6_4).symm.trans hf
  by_cases c6_5 : p1 = 5
  · replace hf := (if_pos c6_5).symm.trans hf
    refine lv_tableIn (tgt := 132) (off := 131) hx hb dL_does_1 (by rw [zI_toInt k5]; omega) (by rw [zI_toInt k5]; omega) (by rw [zI_toInt k5, c6_5]; rfl) (by decide) ?_
    refine lv_aload_n hx hb dL_does_132 rfl (lv_at hl 0 rfl) ?_
    refine lv_iload_n hx hb dL_does_133 rfl (lv_at hl 2 rfl) ?_
    obtain ⟨k21, hf⟩ := zck_some hf
    obtain ⟨y22, ey22, hf⟩ := zlt_some hf
    refine ycxVi (C := RX6) (As := [.int (zI p2)]) (rest := []) hx hb hml hown hts hl.1 hK (hX.kept hG.2.2.2.2.1) hNc hG.1.1 (yG_f1 hG) hG.2.2.2 (yc_count hst k21) zk_t3_177 zk_t3_178 zk_t3_179 zk_t1_1 zk_t3_180 hd_X6_count rfl ⟨rfl, rfl, Nat.le_of_ble_eq_true rfl, Nat.le_of_ble_eq_true rfl⟩ ⟨Nat.le_of_ble_eq_true rfl, Nat.le_of_ble_eq_true rfl⟩ (yOb_recv hK hG.1.1) rfl (Nat.le_of_ble_eq_true rfl) dL_does_134 (fun E ce q9 F9 H locs hPo hE hO hz hk9 hS hce hcv hcl => ?_) (fun r F9 H locs hp hO hz hk9 hS => ?_)
    · replace hf := (if_pos (show ¬ y22.1 = 0 from by rw [ey22]; exact zEx_ne hE)).symm.trans hf
      have hG := yG_1 hG hO hPo hz hk9 hS
      cases hf
      exact yxout hQ hnh hlocks hG (by rw [ey22]; exact hE) ⟨Nat.le_of_ble_eq_true rfl, Nat.le_of_ble_eq_true rfl⟩ hce hcv hcl
    replace hf := (if_neg (fun z => z (by rw [ey22]; exact hp.1.1))).symm.trans hf
    have hG := yG_1 hG hO hp.2 hz hk9 hS
    have hr9 := hp.1.2
    rw [← ey22] at hr9
    subst hr9
    cases hf
    exact yretx hx hb hr hlocks hQ hG ⟨rfl, rfl⟩ ⟨Nat.le_of_ble_eq_true rfl, Nat.le_of_ble_eq_true rfl⟩ dL_does_137
  replace hf := (if_neg c6_5).symm.trans hf
  by_cases c6_6 : p1 = 6
  · replace hf := (if_pos c6_6).symm.trans hf
    refine lv_tableIn (tgt := 138) (off := 137) hx hb dL_does_1 (by rw [zI_toInt k5]; omega) (by rw [zI_toInt k5]; omega) (by rw [zI_toInt k5, c6_6]; rfl) (by decide) ?_
    refine lv_aload_n hx hb dL_does_138 rfl (lv_at hl 0 rfl) ?_
    refine lv_iload_n hx hb dL_does_139 rfl (lv_at hl 2 rfl) ?_
    obtain ⟨k23, hf⟩ := zck_some hf
    obtain ⟨y24, ey24, hf⟩ := zlt_some hf
    refine ycxVi (C := RX6) (As := [.int (zI p2)]) (rest := []) hx hb hml hown hts hl.1 hK (hX.kept hG.2.2.2.2.1) hNc hG.1.1 (yG_f1 hG) hG.2.2.2 (yc_thread hst k23) zk_t3_182 zk_t3_183 zk_t3_184 zk_t1_1 zk_t3_185 hd_X6_thread rfl ⟨rfl, rfl, Nat.le_of_ble_eq_true rfl, Nat.le_of_ble_eq_true rfl⟩ ⟨Nat.le_of_ble_eq_true rfl, Nat.le_of_ble_eq_true rfl⟩ (yOb_recv hK hG.1.1) rfl (Nat.le_of_ble_eq_true rfl) dL_does_140 (fun E ce q9 F9 H locs hPo hE hO hz hk9 hS hce hcv hcl => ?_) (fun r F9 H locs hp hO hz hk9 hS => ?_)
    · replace hf := (if_pos (show ¬ y24.1 = 0 from by rw [ey24]; exact zEx_ne hE)).symm.trans hf
      have hG := yG_1 hG hO hPo hz hk9 hS
      cases hf
      exact yxout hQ hnh hlocks hG (by rw [ey24]; exact hE) ⟨Nat.le_of_ble_eq_true rfl, Nat.le_of_ble_eq_true rfl⟩ hce hcv hcl
    replace hf := (if_neg (fun z => z (by rw [ey24]; exact hp.1.1))).symm.trans hf
    have hG := yG_1 hG hO hp.2 hz hk9 hS
    have hr9 := hp.1.2
    rw [← ey24] at hr9
    subst hr9
    cases hf
    exact yretx hx hb hr hlocks hQ hG ⟨rfl, rfl⟩ ⟨Nat.le_of_ble_eq_true rfl, Nat.le_of_ble_eq_true rfl⟩ dL_does_143
  replace hf := (if_neg c6_6).symm.trans hf
  by_cases c6_7 : p1 = 7
  · replace hf := (if_pos c6_7).symm.trans hf
    refine lv_tableIn (tgt := 144) (off := 143) hx hb dL_does_1 (by rw [zI_toInt k5]; omega) (by rw [zI_toInt k5]; omega) (by rw [zI_toInt k5, c6_7]; rfl) (by decide) ?_
    refine lv_aload_n hx hb dL_does_144 rfl (lv_at hl 0 rfl) ?_
    refine lv_iload_n hx hb dL_does_145 rfl (lv_at hl 2 rfl) ?_
    obtain ⟨k25, hf⟩ := zck_some hf
    obtain ⟨y26, ey26, hf⟩ := zlt_some hf
    refine ycxVf (C := RX6) (As := [.int (zI p2)]) (rest := []) hx hb hml hown hts hl.1 hK (hX.kept hG.2.2.2.2.1) hNc hG.1.1 (yG_f1 hG) hG.2.2.2 (yc_covered hst k25) zk_t3_186 zk_t3_187 zk_t3_188 zk_t1_1 zk_t3_189 hd_X6_covered rfl ⟨rfl, rfl, Nat.le_of_ble_eq_true rfl, Nat.le_of_ble_eq_true rfl⟩ ⟨Nat.le_of_ble_eq_true rfl, Nat.le_of_ble_eq_true rfl⟩ (yOb_recv hK hG.1.1) rfl (Nat.le_of_ble_eq_true rfl) dL_does_146 (fun E ce q9 F9 H locs hPo hE hO hz hk9 hS hce hcv hcl => ?_) (fun r F9 H locs hp hO hz hk9 hS => ?_)
    · replace hf := (if_pos (show ¬ y26.1 = 0 from by rw [ey26]; exact zEx_ne hE)).symm.trans hf
      have hG := yG_1 hG hO hPo hz hk9 hS
      cases hf
      exact yxout hQ hnh hlocks hG (by rw [ey26]; exact hE) ⟨Nat.le_of_ble_eq_true rfl, Nat.le_of_ble_eq_true rfl⟩ hce hcv hcl
    replace hf := (if_neg (fun z => z (by rw [ey26]; exact hp.1.1))).symm.trans hf
    have hG := yG_1 hG hO hp.2 hz hk9 hS
    have hr9 := hp.1.2
    rw [← ey26] at hr9
    subst hr9
    refine lv_fconst0 hx hb dL_does_149 ?_
    refine lz_fcmp hx hb dL_does_150 ?_
    obtain ⟨k27, hf⟩ := zck_some hf
    refine lz_if_le (tgt := 158) hx hb k27 dL_does_151 (by decide) (fun c28 => ?_) (fun c28 => ?_)
    · replace hf := (if_pos c28).symm.trans hf
      refine lv_iconst (v := zI 0) hx hb dL_does_158 (by decide +kernel) ?_
      cases hf
      exact yretx hx hb hr hlocks hQ hG ⟨rfl, rfl⟩ ⟨Nat.le_of_ble_eq_true rfl, Nat.le_of_ble_eq_true rfl⟩ dL_does_159
    · replace hf := (if_neg c28).symm.trans hf
      refine lv_iconst (v := zI 1) hx hb dL_does_154 (by decide +kernel) ?_
      refine lv_goto (tgt := 159) hx hb dL_does_155 (by decide) ?_
      cases hf
      exact yretx hx hb hr hlocks hQ hG ⟨rfl, rfl⟩ ⟨Nat.le_of_ble_eq_true rfl, Nat.le_of_ble_eq_true rfl⟩ dL_does_159
  replace hf := (if_neg c6_7).symm.trans hf
  by_cases c6_8 : p1 = 8
  · replace hf := (if_pos c6_8).symm.trans hf
    refine lv_tableIn (tgt := 160) (off := 159) hx hb dL_does_1 (by rw [zI_toInt k5]; omega) (by rw [zI_toInt k5]; omega) (by rw [zI_toInt k5, c6_8]; rfl) (by decide) ?_
    refine lv_aload_n hx hb dL_does_160 rfl (lv_at hl 0 rfl) ?_
    refine lv_iload_n hx hb dL_does_161 rfl (lv_at hl 2 rfl) ?_
    obtain ⟨k29, hf⟩ := zck_some hf
    obtain ⟨y30, ey30, hf⟩ := zlt_some hf
    refine ycxVi (C := RX6) (As := [.int (zI p2)]) (rest := []) hx hb hml hown hts hl.1 hK (hX.kept hG.2.2.2.2.1) hNc hG.1.1 (yG_f1 hG) hG.2.2.2 (yc_touched hst k29) zk_t2_179 zk_t2_180 zk_t2_181 zk_t1_1 zk_t2_182 hd_X6_touched rfl ⟨rfl, rfl, Nat.le_of_ble_eq_true rfl, Nat.le_of_ble_eq_true rfl⟩ ⟨Nat.le_of_ble_eq_true rfl, Nat.le_of_ble_eq_true rfl⟩ (yOb_recv hK hG.1.1) rfl (Nat.le_of_ble_eq_true rfl) dL_does_162 (fun E ce q9 F9 H locs hPo hE hO hz hk9 hS hce hcv hcl => ?_) (fun r F9 H locs hp hO hz hk9 hS => ?_)
    · replace hf := (if_pos (show ¬ y30.1 = 0 from by rw [ey30]; exact zEx_ne hE)).symm.trans hf
      have hG := yG_1 hG hO hPo hz hk9 hS
      cases hf
      exact yxout hQ hnh hlocks hG (by rw [ey30]; exact hE) ⟨Nat.le_of_ble_eq_true rfl, Nat.le_of_ble_eq_true rfl⟩ hce hcv hcl
    replace hf := (if_neg (fun z => z (by rw [ey30]; exact hp.1.1))).symm.trans hf
    have hG := yG_1 hG hO hp.2 hz hk9 hS
    have hr9 := hp.1.2
    rw [← ey30] at hr9
    subst hr9
    cases hf
    exact yretx hx hb hr hlocks hQ hG ⟨rfl, rfl⟩ ⟨Nat.le_of_ble_eq_true rfl, Nat.le_of_ble_eq_true rfl⟩ dL_does_165
  replace hf := (if_neg c6_8).symm.trans hf
  by_cases c6_9 : p1 = 9
  · replace hf := (if_pos c6_9).symm.trans hf
    refine lv_tableIn (tgt := 166) (off := 165) hx hb dL_does_1 (by rw [zI_toInt k5]; omega) (by rw [zI_toInt k5]; omega) (by rw [zI_toInt k5, c6_9]; rfl) (by decide) ?_
    refine lv_aload_n hx hb dL_does_166 rfl (lv_at hl 0 rfl) ?_
    refine lv_iload_n hx hb dL_does_167 rfl (lv_at hl 2 rfl) ?_
    obtain ⟨k31, hf⟩ := zck_some hf
    obtain ⟨y32, ey32, hf⟩ := zlt_some hf
    refine ycxVi (C := RX6) (As := [.int (zI p2)]) (rest := []) hx hb hml hown hts hl.1 hK (hX.kept hG.2.2.2.2.1) hNc hG.1.1 (yG_f1 hG) hG.2.2.2 (yc_write hst k31) zk_t3_207 zk_t3_208 zk_t3_209 zk_t1_1 zk_t3_210 hd_X6_write rfl ⟨rfl, rfl, Nat.le_of_ble_eq_true rfl, Nat.le_of_ble_eq_true rfl⟩ ⟨Nat.le_of_ble_eq_true rfl, Nat.le_of_ble_eq_true rfl⟩ (yOb_recv hK hG.1.1) rfl (Nat.le_of_ble_eq_true rfl) dL_does_168 (fun E ce q9 F9 H locs hPo hE hO hz hk9 hS hce hcv hcl => ?_) (fun r F9 H locs hp hO hz hk9 hS => ?_)
    · replace hf := (if_pos (show ¬ y32.1 = 0 from by rw [ey32]; exact zEx_ne hE)).symm.trans hf
      have hG := yG_1 hG hO hPo hz hk9 hS
      cases hf
      exact yxout hQ hnh hlocks (by rw [ey32]; exact hG) (by rw [ey32]; exact hE) ⟨Nat.le_of_ble_eq_true rfl, Nat.le_of_ble_eq_true rfl⟩ hce hcv hcl
    replace hf := (if_neg (fun z => z (by rw [ey32]; exact hp.1.1))).symm.trans hf
    have hG := yG_1 hG hO hp.2 hz hk9 hS
    have hr9 := hp.1.2
    rw [← ey32] at hr9
    subst hr9
    rw [← ey32] at hG
    cases hf
    exact yretx hx hb hr hlocks hQ hG ⟨rfl, rfl⟩ ⟨Nat.le_of_ble_eq_true rfl, Nat.le_of_ble_eq_true rfl⟩ dL_does_171
  replace hf := (if_neg c6_9).symm.trans hf
  by_cases c6_10 : p1 = 10
  · replace hf := (if_pos c6_10).symm.trans hf
    refine lv_tableIn (tgt := 172) (off := 171) hx hb dL_does_1 (by rw [zI_toInt k5]; omega) (by rw [zI_toInt k5]; omega) (by rw [zI_toInt k5, c6_10]; rfl) (by decide) ?_
    refine lv_aload_n hx hb dL_does_172 rfl (lv_at hl 0 rfl) ?_
    refine lv_iload_n hx hb dL_does_173 rfl (lv_at hl 2 rfl) ?_
    obtain ⟨k33, hf⟩ := zck_some hf
    obtain ⟨y34, ey34, hf⟩ := zlt_some hf
    refine ycxVi (C := RX6) (As := [.int (zI p2)]) (rest := []) hx hb hml hown hts hl.1 hK (hX.kept hG.2.2.2.2.1) hNc hG.1.1 (yG_f1 hG) hG.2.2.2 (yc_byteAt hst k33) zk_t2_204 zk_t2_205 zk_t2_206 zk_t1_1 zk_t2_207 hd_X6_byteAt rfl ⟨rfl, rfl, Nat.le_of_ble_eq_true rfl, Nat.le_of_ble_eq_true rfl⟩ ⟨Nat.le_of_ble_eq_true rfl, Nat.le_of_ble_eq_true rfl⟩ (yOb_recv hK hG.1.1) rfl (Nat.le_of_ble_eq_true rfl) dL_does_174 (fun E ce q9 F9 H locs hPo hE hO hz hk9 hS hce hcv hcl => ?_) (fun r F9 H locs hp hO hz hk9 hS => ?_)
    · replace hf := (if_pos (show ¬ y34.1 = 0 from by rw [ey34]; exact zEx_ne hE)).symm.trans hf
      have hG := yG_1 hG hO hPo hz hk9 hS
      cases hf
      exact yxout hQ hnh hlocks hG (by rw [ey34]; exact hE) ⟨Nat.le_of_ble_eq_true rfl, Nat.le_of_ble_eq_true rfl⟩ hce hcv hcl
    replace hf := (if_neg (fun z => z (by rw [ey34]; exact hp.1.1))).symm.trans hf
    have hG := yG_1 hG hO hp.2 hz hk9 hS
    have hr9 := hp.1.2
    rw [← ey34] at hr9
    subst hr9
    cases hf
    exact yretx hx hb hr hlocks hQ hG ⟨rfl, rfl⟩ ⟨Nat.le_of_ble_eq_true rfl, Nat.le_of_ble_eq_true rfl⟩ dL_does_177
  replace hf := (if_neg c6_10).symm.trans hf
  by_cases c6_11 : p1 = 11
  · replace hf := (if_pos c6_11).symm.trans hf
    refine lv_tableIn (tgt := 178) (off := 177) hx hb dL_does_1 (by rw [zI_toInt k5]; omega) (by rw [zI_toInt k5]; omega) (by rw [zI_toInt k5, c6_11]; rfl) (by decide) ?_
    refine lv_aload_n hx hb dL_does_178 rfl (lv_at hl 0 rfl) ?_
    refine lv_iload_n hx hb dL_does_179 rfl (lv_at hl 2 rfl) ?_
    refine lv_iload_n hx hb dL_does_180 rfl (lv_at hl 3 rfl) ?_
    obtain ⟨k35, hf⟩ := zck_some hf
    obtain ⟨k36, hf⟩ := zck_some hf
    obtain ⟨y37, ey37, hf⟩ := zlt_some hf
    refine ycxVi (C := RX6) (As := [.int (zI p2), .int (zI p3)]) (rest := []) hx hb hml hown hts hl.1 hK (hX.kept hG.2.2.2.2.1) hNc hG.1.1 (yG_f1 hG) hG.2.2.2 (yc_damage hst ⟨k35, k36⟩) zk_t3_232 zk_t3_233 zk_t3_234 zk_t1_1 zk_t3_235 hd_X6_damage rfl ⟨rfl, rfl, Nat.le_of_ble_eq_true rfl, Nat.le_of_ble_eq_true rfl⟩ ⟨Nat.le_of_ble_eq_true rfl, Nat.le_of_ble_eq_true rfl⟩ (yOb_recv hK hG.1.1) rfl (Nat.le_of_ble_eq_true rfl) dL_does_181 (fun E ce q9 F9 H locs hPo hE hO hz hk9 hS hce hcv hcl => ?_) (fun r F9 H locs hp hO hz hk9 hS => ?_)
    · replace hf := (if_pos (show ¬ y37.1 = 0 from by rw [ey37]; exact zEx_ne hE)).symm.trans hf
      have hG := yG_1 hG hO hPo hz hk9 hS
      cases hf
      exact yxout hQ hnh hlocks (by rw [ey37]; exact hG) (by rw [ey37]; exact hE) ⟨Nat.le_of_ble_eq_true rfl, Nat.le_of_ble_eq_true rfl⟩ hce hcv hcl
    replace hf := (if_neg (fun z => z (by rw [ey37]; exact hp.1.1))).symm.trans hf
    have hG := yG_1 hG hO hp.2 hz hk9 hS
    have hr9 := hp.1.2
    rw [← ey37] at hr9
    subst hr9
    rw [← ey37] at hG
    cases hf
    exact yretx hx hb hr hlocks hQ hG ⟨rfl, rfl⟩ ⟨Nat.le_of_ble_eq_true rfl, Nat.le_of_ble_eq_true rfl⟩ dL_does_184
  replace hf := (if_neg c6_11).symm.trans hf
  by_cases c6_12 : p1 = 12
  · replace hf := (if_pos c6_12).symm.trans hf
    refine lv_tableIn (tgt := 185) (off := 184) hx hb dL_does_1 (by rw [zI_toInt k5]; omega) (by rw [zI_toInt k5]; omega) (by rw [zI_toInt k5, c6_12]; rfl) (by decide) ?_
    refine lv_aload_n hx hb dL_does_185 rfl (lv_at hl 0 rfl) ?_
    refine lv_iload_n hx hb dL_does_186 rfl (lv_at hl 2 rfl) ?_
    obtain ⟨k38, hf⟩ := zck_some hf
    obtain ⟨y39, ey39, hf⟩ := zlt_some hf
    refine ycxVi (C := RX6) (As := [.int (zI p2)]) (rest := []) hx hb hml hown hts hl.1 hK (hX.kept hG.2.2.2.2.1) hNc hG.1.1 (yG_f1 hG) hG.2.2.2 (yc_shorten hst k38) zk_t3_237 zk_t3_238 zk_t3_239 zk_t1_1 zk_t4_0 hd_X6_shorten rfl ⟨rfl, rfl, Nat.le_of_ble_eq_true rfl, Nat.le_of_ble_eq_true rfl⟩ ⟨Nat.le_of_ble_eq_true rfl, Nat.le_of_ble_eq_true rfl⟩ (yOb_recv hK hG.1.1) rfl (Nat.le_of_ble_eq_true rfl) dL_does_187 (fun E ce q9 F9 H locs hPo hE hO hz hk9 hS hce hcv hcl => ?_) (fun r F9 H locs hp hO hz hk9 hS => ?_)
    · replace hf := (if_pos (show ¬ y39.1 = 0 from by rw [ey39]; exact zEx_ne hE)).symm.trans hf
      have hG := yG_1 hG hO hPo hz hk9 hS
      cases hf
      exact yxout hQ hnh hlocks (by rw [ey39]; exact hG) (by rw [ey39]; exact hE) ⟨Nat.le_of_ble_eq_true rfl, Nat.le_of_ble_eq_true rfl⟩ hce hcv hcl
    replace hf := (if_neg (fun z => z (by rw [ey39]; exact hp.1.1))).symm.trans hf
    have hG := yG_1 hG hO hp.2 hz hk9 hS
    have hr9 := hp.1.2
    rw [← ey39] at hr9
    subst hr9
    rw [← ey39] at hG
    cases hf
    exact yretx hx hb hr hlocks hQ hG ⟨rfl, rfl⟩ ⟨Nat.le_of_ble_eq_true rfl, Nat.le_of_ble_eq_true rfl⟩ dL_does_190
  replace hf := (if_neg c6_12).symm.trans hf
  by_cases c6_13 : p1 = 13
  · replace hf := (if_pos c6_13).symm.trans hf
    refine lv_tableIn (tgt := 191) (off := 190) hx hb dL_does_1 (by rw [zI_toInt k5]; omega) (by rw [zI_toInt k5]; omega) (by rw [zI_toInt k5, c6_13]; rfl) (by decide) ?_
    refine lv_aload_n hx hb dL_does_191 rfl (lv_at hl 0 rfl) ?_
    refine lv_iload_n hx hb dL_does_192 rfl (lv_at hl 2 rfl) ?_
    refine lv_iload_n hx hb dL_does_193 rfl (lv_at hl 3 rfl) ?_
    obtain ⟨k40, hf⟩ := zck_some hf
    obtain ⟨k41, hf⟩ := zck_some hf
    obtain ⟨y42, ey42, hf⟩ := zlt_some hf
    refine ycxVv (C := RX6) (As := [.int (zI p2), .int (zI p3)]) (rest := []) hx hb hml hown hts hl.1 hK (hX.kept hG.2.2.2.2.1) hNc hG.1.1 (yG_f1 hG) hG.2.2.2 (yc_start hst ⟨k40, k41⟩) zk_t4_2 zk_t4_3 zk_t4_4 zk_t1_1 zk_t4_5 hd_X6_start rfl ⟨rfl, rfl, Nat.le_of_ble_eq_true rfl, Nat.le_of_ble_eq_true rfl⟩ ⟨Nat.le_of_ble_eq_true rfl, Nat.le_of_ble_eq_true rfl⟩ (yOb_recv hK hG.1.1) rfl (Nat.le_of_ble_eq_true rfl) dL_does_194 (fun E ce q9 F9 H locs hPo hE hO hz hk9 hS hce hcv hcl => ?_) (fun F9 H locs hp hO hz hk9 hS => ?_)
    · replace hf := (if_pos (show ¬ y42.1 = 0 from by rw [ey42]; exact zEx_ne hE)).symm.trans hf
      have hG := yG_1 hG hO hPo hz hk9 hS
      cases hf
      exact yxout hQ hnh hlocks (by rw [ey42]; exact hG) (by rw [ey42]; exact hE) ⟨Nat.le_of_ble_eq_true rfl, Nat.le_of_ble_eq_true rfl⟩ hce hcv hcl
    replace hf := (if_neg (fun z => z (by rw [ey42]; exact hp.1))).symm.trans hf
    have hG := yG_1 hG hO hp.2 hz hk9 hS
    rw [← ey42] at hG
    refine lv_iconst (v := zI 0) hx hb dL_does_197 (by decide +kernel) ?_
    cases hf
    exact yretx hx hb hr hlocks hQ hG ⟨rfl, rfl⟩ ⟨Nat.le_of_ble_eq_true rfl, Nat.le_of_ble_eq_true rfl⟩ dL_does_198
  replace hf := (if_neg c6_13).symm.trans hf
  by_cases c6_14 : p1 = 14
  · replace hf := (if_pos c6_14).symm.trans hf
    refine lv_tableIn (tgt := 199) (off := 198) hx hb dL_does_1 (by rw [zI_toInt k5]; omega) (by rw [zI_toInt k5]; omega) (by rw [zI_toInt k5, c6_14]; rfl) (by decide) ?_
    refine lv_aload_n hx hb dL_does_199 rfl (lv_at hl 0 rfl) ?_
    refine lv_iload_n hx hb dL_does_200 rfl (lv_at hl 2 rfl) ?_
    obtain ⟨k43, hf⟩ := zck_some hf
    obtain ⟨y44, ey44, hf⟩ := zlt_some hf
    refine ycxVi (C := RX6) (As := [.int (zI p2)]) (rest := []) hx hb hml hown hts hl.1 hK (hX.kept hG.2.2.2.2.1) hNc hG.1.1 (yG_f1 hG) hG.2.2.2 (yc_run hst k43) zk_t4_13 zk_t4_14 zk_t4_15 zk_t1_1 zk_t4_16 hd_X6_run rfl ⟨rfl, rfl, Nat.le_of_ble_eq_true rfl, Nat.le_of_ble_eq_true rfl⟩ ⟨Nat.le_of_ble_eq_true rfl, Nat.le_of_ble_eq_true rfl⟩ (yOb_recv hK hG.1.1) rfl (Nat.le_of_ble_eq_true rfl) dL_does_201 (fun E ce q9 F9 H locs hPo hE hO hz hk9 hS hce hcv hcl => ?_) (fun r F9 H locs hp hO hz hk9 hS => ?_)
    · replace hf := (if_pos (show ¬ y44.1 = 0 from by rw [ey44]; exact zEx_ne hE)).symm.trans hf
      have hG := yG_1 hG hO hPo hz hk9 hS
      cases hf
      exact yxout hQ hnh hlocks (by rw [ey44]; exact hG) (by rw [ey44]; exact hE) ⟨Nat.le_of_ble_eq_true rfl, Nat.le_of_ble_eq_true rfl⟩ hce hcv hcl
    replace hf := (if_neg (fun z => z (by rw [ey44]; exact hp.1.1))).symm.trans hf
    have hG := yG_1 hG hO hp.2 hz hk9 hS
    have hr9 := hp.1.2
    rw [← ey44] at hr9
    subst hr9
    rw [← ey44] at hG
    cases hf
    exact yretx hx hb hr hlocks hQ hG ⟨rfl, rfl⟩ ⟨Nat.le_of_ble_eq_true rfl, Nat.le_of_ble_eq_true rfl⟩ dL_does_204
  replace hf := (if_neg c6_14).symm.trans hf
  by_cases c6_15 : p1 = 15
  · replace hf := (if_pos c6_15).symm.trans hf
    refine lv_tableIn (tgt := 205) (off := 204) hx hb dL_does_1 (by rw [zI_toInt k5]; omega) (by rw [zI_toInt k5]; omega) (by rw [zI_toInt k5, c6_15]; rfl) (by decide) ?_
    refine lv_aload_n hx hb dL_does_205 rfl (lv_at hl 0 rfl) ?_
    refine lv_iload_n hx hb dL_does_206 rfl (lv_at hl 2 rfl) ?_
    obtain ⟨k45, hf⟩ := zck_some hf
    obtain ⟨y46, ey46, hf⟩ := zlt_some hf
    refine ycxVv (C := RX6) (As := [.int (zI p2)]) (rest := []) hx hb hml hown hts hl.1 hK (hX.kept hG.2.2.2.2.1) hNc hG.1.1 (yG_f1 hG) hG.2.2.2 (yc_breaks hst k45) zk_t4_40 zk_t4_41 zk_t4_42 zk_t1_1 zk_t4_43 hd_X6_breaks rfl ⟨rfl, rfl, Nat.le_of_ble_eq_true rfl, Nat.le_of_ble_eq_true rfl⟩ ⟨Nat.le_of_ble_eq_true rfl, Nat.le_of_ble_eq_true rfl⟩ (yOb_recv hK hG.1.1) rfl (Nat.le_of_ble_eq_true rfl) dL_does_207 (fun E ce q9 F9 H locs hPo hE hO hz hk9 hS hce hcv hcl => ?_) (fun F9 H locs hp hO hz hk9 hS => ?_)
    · replace hf := (if_pos (show ¬ y46.1 = 0 from by rw [ey46]; exact zEx_ne hE)).symm.trans hf
      have hG := yG_1 hG hO hPo hz hk9 hS
      cases hf
      exact yxout hQ hnh hlocks (by rw [ey46]; exact hG) (by rw [ey46]; exact hE) ⟨Nat.le_of_ble_eq_true rfl, Nat.le_of_ble_eq_true rfl⟩ hce hcv hcl
    replace hf := (if_neg (fun z => z (by rw [ey46]; exact hp.1))).symm.trans hf
    have hG := yG_1 hG hO hp.2 hz hk9 hS
    rw [← ey46] at hG
    refine lv_iconst (v := zI 0) hx hb dL_does_210 (by decide +kernel) ?_
    cases hf
    exact yretx hx hb hr hlocks hQ hG ⟨rfl, rfl⟩ ⟨Nat.le_of_ble_eq_true rfl, Nat.le_of_ble_eq_true rfl⟩ dL_does_211
  replace hf := (if_neg c6_15).symm.trans hf
  by_cases c6_16 : p1 = 16
  · replace hf := (if_pos c6_16).symm.trans hf
    refine lv_tableIn (tgt := 212) (off := 211) hx hb dL_does_1 (by rw [zI_toInt k5]; omega) (by rw [zI_toInt k5]; omega) (by rw [zI_toInt k5, c6_16]; rfl) (by decide) ?_
    refine lv_aload_n hx hb dL_does_212 rfl (lv_at hl 0 rfl) ?_
    refine lv_iload_n hx hb dL_does_213 rfl (lv_at hl 2 rfl) ?_
    obtain ⟨k47, hf⟩ := zck_some hf
    obtain ⟨y48, ey48, hf⟩ := zlt_some hf
    refine ycxVi (C := RX6) (As := [.int (zI p2)]) (rest := []) hx hb hml hown hts hl.1 hK (hX.kept hG.2.2.2.2.1) hNc hG.1.1 (yG_f1 hG) hG.2.2.2 (yc_mend hst k47) zk_t4_49 zk_t4_50 zk_t4_51 zk_t1_1 zk_t4_52 hd_X6_mend rfl ⟨rfl, rfl, Nat.le_of_ble_eq_true rfl, Nat.le_of_ble_eq_true rfl⟩ ⟨Nat.le_of_ble_eq_true rfl, Nat.le_of_ble_eq_true rfl⟩ (yOb_recv hK hG.1.1) rfl (Nat.le_of_ble_eq_true rfl) dL_does_214 (fun E ce q9 F9 H locs hPo hE hO hz hk9 hS hce hcv hcl => ?_) (fun r F9 H locs hp hO hz hk9 hS => ?_)
    · replace hf := (if_pos (show ¬ y48.1 = 0 from by rw [ey48]; exact zEx_ne hE)).symm.trans hf
      have hG := yG_1 hG hO hPo hz hk9 hS
      cases hf
      exact yxout hQ hnh hlocks (by rw [ey48]; exact hG) (by rw [ey48]; exact hE) ⟨Nat.le_of_ble_eq_true rfl, Nat.le_of_ble_eq_true rfl⟩ hce hcv hcl
    replace hf := (if_neg (fun z => z (by rw [ey48]; exact hp.1.1))).symm.trans hf
    have hG := yG_1 hG hO hp.2 hz hk9 hS
    have hr9 := hp.1.2
    rw [← ey48] at hr9
    subst hr9
    rw [← ey48] at hG
    cases hf
    exact yretx hx hb hr hlocks hQ hG ⟨rfl, rfl⟩ ⟨Nat.le_of_ble_eq_true rfl, Nat.le_of_ble_eq_true rfl⟩ dL_does_217
  replace hf := (if_neg c6_16).symm.trans hf
  refine lv_tableOut (tgt := 218) hx hb dL_does_1 (by rw [zI_toInt k5]; omega) (by decide) ?_
  refine lv_aload_n hx hb dL_does_218 rfl (lv_at hl 0 rfl) ?_
  refine lv_iload_n hx hb dL_does_219 rfl (lv_at hl 2 rfl) ?_
  obtain ⟨k49, hf⟩ := zck_some hf
  obtain ⟨y50, ey50, hf⟩ := zlt_some hf
  refine ycxVi (C := RX6) (As := [.int (zI p2)]) (rest := []) hx hb hml hown hts hl.1 hK (hX.kept hG.2.2.2.2.1) hNc hG.1.1 (yG_f1 hG) hG.2.2.2 (yc_sewn hst k49) zk_t2_214 zk_t2_215 zk_t2_216 zk_t1_1 zk_t2_217 hd_X6_sewn rfl ⟨rfl, rfl, Nat.le_of_ble_eq_true rfl, Nat.le_of_ble_eq_true rfl⟩ ⟨Nat.le_of_ble_eq_true rfl, Nat.le_of_ble_eq_true rfl⟩ (yOb_recv hK hG.1.1) rfl (Nat.le_of_ble_eq_true rfl) dL_does_220 (fun E ce q9 F9 H locs hPo hE hO hz hk9 hS hce hcv hcl => ?_) (fun r F9 H locs hp hO hz hk9 hS => ?_)
  · replace hf := (if_pos (show ¬ y50.1 = 0 from by rw [ey50]; exact zEx_ne hE)).symm.trans hf
    have hG := yG_1 hG hO hPo hz hk9 hS
    cases hf
    exact yxout hQ hnh hlocks hG (by rw [ey50]; exact hE) ⟨Nat.le_of_ble_eq_true rfl, Nat.le_of_ble_eq_true rfl⟩ hce hcv hcl
  replace hf := (if_neg (fun z => z (by rw [ey50]; exact hp.1.1))).symm.trans hf
  have hG := yG_1 hG hO hp.2 hz hk9 hS
  have hr9 := hp.1.2
  rw [← ey50] at hr9
  subst hr9
  cases hf
  exact yretx hx hb hr hlocks hQ hG ⟨rfl, rfl⟩ ⟨Nat.le_of_ble_eq_true rfl, Nat.le_of_ble_eq_true rfl⟩ dL_does_223
abbrev rmL_call : Room := { frames := 9, cells := 7, slots := 4198, locals := 213 }
theorem hd_L_call : yL_call.cls ≠ "java/lang/invoke/MethodHandle" ∧ yL_call.cls ≠ "java/lang/invoke/VarHandle" ∧ (parseMethodDescriptor yL_call.desc).map (fun d => d.parameters.length) = some 5 := by decide +kernel
set_option maxHeartbeats 4000000 in
set_option maxRecDepth 100000 in
theorem c_L_call {l : Launch} (hst : l.stackTraces = false) {D : va_G} {cI cZ cF cL cD : ClassId} {q1 q2 qd sz : Nat} {E1 E2 : Nat → Prop} {S1 S2 R_S1 : yS} {dv : Int → Int} {p1 p2 p3 p4 R0 : Int} (hf : f_L_call S1 p1 p2 p3 p4 = some (R0, R_S1)) :
    Met l yL_call (Cond.codeWith yL_call cL_call 6 (some .int) [(0, 9, 10, 15), (0, 9, 15, 18), (0, 9, 20, 21)] :: wsL_law) rmL_call (yPc D (zT cI cZ cF cL cD) sz (yA E1 E2 qd sz) (yW D cI cZ cF q1 E1 S1 q2 E2 S2 qd dv) [.ref q1, .int (zI p1), .int (zI p2), .int (zI p3), .int (zI p4)]) (yQLi D cI cZ cF q1 E1 q2 E2 qd sz (fun r => r = zI R0) R_S1 S2 dv) 7 4198 (yA E1 E2 qd sz) := by
  refine yMetH (by decide) (Nat.le_of_ble_eq_true rfl) ?_
  intro p e s m args below meth c Q hx hb hr hlocks hml hown hts htab hK hX hNc hsz hQ hW9 hS9 ls hl
  subst hsz
  have hG := yG_in hW9 hS9
  have hl : lv_has ls 6 [(0, .ref q1), (1, .int (zI p1)), (2, .int (zI p2)), (3, .int (zI p3)), (4, .int (zI p4))] := hl
  unfold f_L_call at hf
  refine lv_aload_n hx hb dL_call_0 rfl (lv_at hl 0 rfl) ?_
  refine lv_iload_n hx hb dL_call_1 rfl (lv_at hl 1 rfl) ?_
  refine lv_iload_n hx hb dL_call_2 rfl (lv_at hl 2 rfl) ?_
  refine lv_iload_n hx hb dL_call_3 rfl (lv_at hl 3 rfl) ?_
  refine lv_iload hx hb dL_call_4 (lv_at hl 4 rfl) ?_
  obtain ⟨t9, r9, s9, k1, hf⟩ := zb3_some hf
  refine ycxSi (As := [.ref q1, .int (zI p1), .int (zI p2), .int (zI p3), .int (zI p4)]) (rest := []) hx hb hml hown hts hl.1 hK (hX.kept hG.2.2.2.2.1) hNc hG.1 (yG_fw hG) hG.2.2.2 (c_L_does hst k1) zk_t3_37 zk_t3_38 zk_t1_0 zk_t3_39 hd_L_does rfl ⟨rfl, rfl, Nat.le_of_ble_eq_true rfl, Nat.le_of_ble_eq_true rfl⟩ ⟨Nat.le_of_ble_eq_true rfl, Nat.le_of_ble_eq_true rfl⟩ rfl (Nat.le_of_ble_eq_true rfl) dL_call_6 (fun E ce q9 u H locs hPo hE hW hz hk9 hS hce hcv hcl => ?_) (fun r u H locs hp hW hz hk9 hS => ?_)
  · have hG := yG_w hG hW hPo hz hS
    have hE0 := hE
    rcases hE0 with ⟨rfl, ht⟩ | ⟨rfl, ht⟩ | ⟨rfl, ht⟩
    · subst ht
      refine vx_catch hown [⟨0, 9, 10, 15⟩] ⟨0, 9, 15, 18⟩ [⟨0, 9, 20, 21⟩] htab (fun z hz => by
          rcases List.mem_cons.mp hz with rfl | hz
          · exact Or.inr ⟨by decide, _, hts _ zk_t3_34, hNc _ (List.mem_of_getElem? (i := 1) rfl)⟩
          · exact nomatch hz) (by decide) (by decide) (hts _ zk_t3_35) (zcast hX zcb_1) hce hcv hcl ?_
      refine lv_astore (lv' := [(5, .ref q9), (0, .ref q1), (1, .int (zI p1)), (2, .int (zI p2)), (3, .int (zI p3)), (4, .int (zI p4))]) hx hb dL_call_15 hl (by decide) rfl (fun ls hl => ?_)
      refine lv_ldc (v := zI (-2000000002)) hx hb hown (hts _ (show Cond.constant RL 20 (zI (-2000000002)) ∈ wsL_law from zk_t4_61)) dL_call_17 ?_
      cases hf
      exact yreti hx hb hr hlocks hQ hG rfl ⟨Nat.le_of_ble_eq_true rfl, Nat.le_of_ble_eq_true rfl⟩ dL_call_19
    · subst ht
      refine vx_catch hown [⟨0, 9, 10, 15⟩, ⟨0, 9, 15, 18⟩] ⟨0, 9, 20, 21⟩ [] htab (fun z hz => by
          rcases List.mem_cons.mp hz with rfl | hz
          · exact Or.inr ⟨by decide, _, hts _ zk_t3_34, hNc _ (List.mem_of_getElem? (i := 3) rfl)⟩
          · rcases List.mem_cons.mp hz with rfl | hz
            · exact Or.inr ⟨by decide, _, hts _ zk_t3_35, hNc _ (List.mem_of_getElem? (i := 2) rfl)⟩
            · exact nomatch hz) (by decide) (by decide) (hts _ zk_t3_36) (zcast hX zcb_2) hce hcv hcl ?_
      refine lv_astore (lv' := [(5, .ref q9), (0, .ref q1), (1, .int (zI p1)), (2, .int (zI p2)), (3, .int (zI p3)), (4, .int (zI p4))]) hx hb dL_call_20 hl (by decide) rfl (fun ls hl => ?_)
      refine lv_ldc (v := zI (-2000000003)) hx hb hown (hts _ (show Cond.constant RL 23 (zI (-2000000003)) ∈ wsL_law from zk_t4_62)) dL_call_22 ?_
      cases hf
      exact yreti hx hb hr hlocks hQ hG rfl ⟨Nat.le_of_ble_eq_true rfl, Nat.le_of_ble_eq_true rfl⟩ dL_call_24
    · subst ht
      refine vx_catch hown [] ⟨0, 9, 10, 15⟩ [⟨0, 9, 15, 18⟩, ⟨0, 9, 20, 21⟩] htab (fun z hz => nomatch hz) (by decide) (by decide) (hts _ zk_t3_34) (zcast hX zcb_3) hce hcv hcl ?_
      refine lv_astore (lv' := [(5, .ref q9), (0, .ref q1), (1, .int (zI p1)), (2, .int (zI p2)), (3, .int (zI p3)), (4, .int (zI p4))]) hx hb dL_call_10 hl (by decide) rfl (fun ls hl => ?_)
      refine lv_ldc (v := zI (-2000000001)) hx hb hown (hts _ (show Cond.constant RL 17 (zI (-2000000001)) ∈ wsL_law from zk_t4_60)) dL_call_12 ?_
      cases hf
      exact yreti hx hb hr hlocks hQ hG rfl ⟨Nat.le_of_ble_eq_true rfl, Nat.le_of_ble_eq_true rfl⟩ dL_call_14
  · have hG := yG_w hG hW hp.2 hz hS
    obtain ⟨ht0, hr0⟩ := hp.1
    subst ht0
    subst hr0
    cases hf
    exact yreti hx hb hr hlocks hQ hG rfl ⟨Nat.le_of_ble_eq_true rfl, Nat.le_of_ble_eq_true rfl⟩ dL_call_9
abbrev rmL_sew : Room := { frames := 8, cells := 2, slots := 12, locals := 141 }
theorem hd_L_sew : yL_sew.cls ≠ "java/lang/invoke/MethodHandle" ∧ yL_sew.cls ≠ "java/lang/invoke/VarHandle" ∧ (parseMethodDescriptor yL_sew.desc).map (fun d => d.parameters.length) = some 7 := by decide +kernel
set_option maxHeartbeats 4000000 in
set_option maxRecDepth 100000 in
theorem c_L_sew {l : Launch} (hst : l.stackTraces = false) {D : va_G} {cI cZ cF cL cD : ClassId} {q1 q2 qd sz : Nat} {E1 E2 : Nat → Prop} {S1 S2 R_S1 : yS} {dv : Int → Int} {p1 p2 p3 p4 p5 p6 R0 : Int} (hf : f_L_sew S1 p1 p2 p3 p4 p5 p6 = some (R0, R_S1)) :
    Met l yL_sew (Cond.codeWith yL_sew cL_sew 8 (some .int) [(0, 14, 15, 15), (0, 14, 20, 18)] :: wsL_law) rmL_sew (yPc D (zT cI cZ cF cL cD) sz (yA E1 E2 qd sz) (yW D cI cZ cF q1 E1 S1 q2 E2 S2 qd dv) [.ref q1, .int (zI p1), .int (zI p2), .int (zI p3), .int (zI p4), .int (zI p5), .int (zI p6)]) (yQLi D cI cZ cF q1 E1 q2 E2 qd sz (fun r => r = zI R0) R_S1 S2 dv) 2 12 (yA E1 E2 qd sz) := by
  refine yMetH (by decide) (Nat.le_of_ble_eq_true rfl) ?_
  intro p e s m args below meth c Q hx hb hr hlocks hml hown hts htab hK hX hNc hsz hQ hW9 hS9 ls hl
  subst hsz
  have hG := yG_in hW9 hS9
  have hl : lv_has ls 8 [(0, .ref q1), (1, .int (zI p1)), (2, .int (zI p2)), (3, .int (zI p3)), (4, .int (zI p4)), (5, .int (zI p5)), (6, .int (zI p6))] := hl
  unfold f_L_sew at hf
  refine lv_aload_n hx hb dL_sew_0 rfl (lv_at hl 0 rfl) ?_
  refine lv_iload_n hx hb dL_sew_1 rfl (lv_at hl 1 rfl) ?_
  refine lv_iload_n hx hb dL_sew_2 rfl (lv_at hl 2 rfl) ?_
  refine lv_iload_n hx hb dL_sew_3 rfl (lv_at hl 3 rfl) ?_
  refine lv_iload hx hb dL_sew_4 (lv_at hl 4 rfl) ?_
  refine lv_iload hx hb dL_sew_6 (lv_at hl 5 rfl) ?_
  refine lv_iload hx hb dL_sew_8 (lv_at hl 6 rfl) ?_
  obtain ⟨k1, hf⟩ := zck_some hf
  obtain ⟨k2, hf⟩ := zck_some hf
  obtain ⟨k3, hf⟩ := zck_some hf
  have hc9 := yc_sew (S := S1) (p1 := p1) (p2 := p2) (p3 := p3) (p4 := p4) (p5 := p5) (p6 := p6) (D := D) (cI := cI) (cZ := cZ) (cF := cF) (cL := cL) (cD := cD) (q := q1) (F := E1) (sz := s.heap.size) hst k1 k2
  generalize y_sew S1 p1 p2 p3 p4 p5 p6 = Y at *
  obtain ⟨t9, s9⟩ := Y
  refine ycxVv (C := RX6) (As := [.int (zI p1), .int (zI p2), .int (zI p3), .int (zI p4), .int (zI p5), .int (zI p6)]) (rest := []) hx hb hml hown hts hl.1 hK (hX.kept hG.2.2.2.2.1) hNc hG.1.1 (yG_f1 hG) hG.2.2.2 hc9 zk_t4_67 zk_t4_68 zk_t4_69 zk_t1_1 zk_t4_70 hd_X6_sew rfl ⟨rfl, rfl, Nat.le_of_ble_eq_true rfl, Nat.le_of_ble_eq_true rfl⟩ ⟨Nat.le_of_ble_eq_true rfl, Nat.le_of_ble_eq_true rfl⟩ (yOb_recv hK hG.1.1) rfl (Nat.le_of_ble_eq_true rfl) dL_sew_10 (fun E ce q9 F9 H locs hPo hE hO hz hk9 hS hce hcv hcl => ?_) (fun F9 H locs hp hO hz hk9 hS => ?_)
  · have hG := yG_1 hG hO hPo hz hk9 hS
    have hE0 := hE
    rcases hE0 with ⟨rfl, ht⟩ | ⟨rfl, ht⟩ | ⟨rfl, ht⟩
    · replace ht : t9 = 1 := ht
      subst ht
      refine vx_catch hown [⟨0, 14, 15, 15⟩] ⟨0, 14, 20, 18⟩ [] htab (fun z hz => by
          rcases List.mem_cons.mp hz with rfl | hz
          · exact Or.inr ⟨by decide, _, hts _ zk_t3_34, hNc _ (List.mem_of_getElem? (i := 1) rfl)⟩
          · exact nomatch hz) (by decide) (by decide) (hts _ zk_t3_35) (zcast hX zcb_1) hce hcv hcl ?_
      refine lv_astore (lv' := [(7, .ref q9), (0, .ref q1), (1, .int (zI p1)), (2, .int (zI p2)), (3, .int (zI p3)), (4, .int (zI p4)), (5, .int (zI p5)), (6, .int (zI p6))]) hx hb dL_sew_20 hl (by decide) rfl (fun ls hl => ?_)
      refine lv_ldc (v := zI (-2000000002)) hx hb hown (hts _ (show Cond.constant RL 20 (zI (-2000000002)) ∈ wsL_law from zk_t4_61)) dL_sew_22 ?_
      cases hf
      exact yreti hx hb hr hlocks hQ hG rfl ⟨Nat.le_of_ble_eq_true rfl, Nat.le_of_ble_eq_true rfl⟩ dL_sew_24
    · replace ht : t9 = 2 := ht
      subst ht
      exact absurd rfl k3
    · replace ht : t9 = 3 := ht
      subst ht
      refine vx_catch hown [] ⟨0, 14, 15, 15⟩ [⟨0, 14, 20, 18⟩] htab (fun z hz => nomatch hz) (by decide) (by decide) (hts _ zk_t3_34) (zcast hX zcb_3) hce hcv hcl ?_
      refine lv_astore (lv' := [(7, .ref q9), (0, .ref q1), (1, .int (zI p1)), (2, .int (zI p2)), (3, .int (zI p3)), (4, .int (zI p4)), (5, .int (zI p5)), (6, .int (zI p6))]) hx hb dL_sew_15 hl (by decide) rfl (fun ls hl => ?_)
      refine lv_ldc (v := zI (-2000000001)) hx hb hown (hts _ (show Cond.constant RL 17 (zI (-2000000001)) ∈ wsL_law from zk_t4_60)) dL_sew_17 ?_
      cases hf
      exact yreti hx hb hr hlocks hQ hG rfl ⟨Nat.le_of_ble_eq_true rfl, Nat.le_of_ble_eq_true rfl⟩ dL_sew_19
  · have hG := yG_1 hG hO hp.2 hz hk9 hS
    have ht0 : t9 = 0 := hp.1
    subst ht0
    refine lv_iconst (v := zI 0) hx hb dL_sew_13 (by decide +kernel) ?_
    cases hf
    exact yreti hx hb hr hlocks hQ hG rfl ⟨Nat.le_of_ble_eq_true rfl, Nat.le_of_ble_eq_true rfl⟩ dL_sew_14
abbrev rmL_both : Room := { frames := 10, cells := 14, slots := 8396, locals := 238 }
theorem hd_L_both : yL_both.cls ≠ "java/lang/invoke/MethodHandle" ∧ yL_both.cls ≠ "java/lang/invoke/VarHandle" ∧ (parseMethodDescriptor yL_both.desc).map (fun d => d.parameters.length) = some 6 := by decide +kernel
set_option maxHeartbeats 4000000 in
set_option maxRecDepth 100000 in
theorem c_L_both {l : Launch} (hst : l.stackTraces = false) {D : va_G} {cI cZ cF cL cD : ClassId} {q1 q2 qd sz : Nat} {E1 E2 : Nat → Prop} {S1 : yS} {S2 : yS} {p2 : Int} {p3 : Int} {p4 : Int} {p5 : Int} {dv : Int → Int} {R0 : Int} {R_S1 : yS} {R_S2 : yS} (hf : f_L_both S1 S2 p2 p3 p4 p5 = some (R0, R_S1, R_S2)) :
    Met l yL_both (Cond.code yL_both cL_both 7 (some .int) :: wsL_law) rmL_both (yPc D (zT cI cZ cF cL cD) sz (yA E1 E2 qd sz) (yW D cI cZ cF q1 E1 S1 q2 E2 S2 qd dv) [.ref q1, .ref q2, .int (zI p2), .int (zI p3), .int (zI p4), .int (zI p5)]) (yQLi D cI cZ cF q1 E1 q2 E2 qd sz (fun r => r = zI R0) R_S1 R_S2 dv) 14 8396 (yA E1 E2 qd sz) := by
  refine yMet0 (by decide) (Nat.le_of_ble_eq_true rfl) ?_
  intro p e s m args below meth c Q hx hb hr hlocks hml hown hts hK hX hNc hsz hQ hW9 hS9 ls hl
  subst hsz
  have hG := yG_in hW9 hS9
  have hl : lv_has ls 7 [(0, .ref q1), (1, .ref q2), (2, .int (zI p2)), (3, .int (zI p3)), (4, .int (zI p4)), (5, .int (zI p5))] := hl
  unfold f_L_both at hf
  refine lv_aload_n hx hb dL_both_0 rfl (lv_at hl 0 rfl) ?_
  refine lv_iload_n hx hb dL_both_1 rfl (lv_at hl 2 rfl) ?_
  refine lv_iload_n hx hb dL_both_2 rfl (lv_at hl 3 rfl) ?_
  refine lv_iload hx hb dL_both_3 (lv_at hl 4 rfl) ?_
  refine lv_iload hx hb dL_both_5 (lv_at hl 5 rfl) ?_
  obtain ⟨r1, s2, k3, hf⟩ := zb2_some hf
  refine ycSiW (As := [.ref q1, .int (zI p2), .int (zI p3), .int (zI p4), .int (zI p5)]) (rest := []) hx hb hml hown hts hl.1 hK (hX.kept hG.2.2.2.2.1) hNc hG.1 (yG_fw hG) hG.2.2.2 (c_L_call hst k3) zk_t3_31 zk_t3_32 zk_t1_0 zk_t3_33 hd_L_call rfl ⟨rfl, rfl, Nat.le_of_ble_eq_true rfl, Nat.le_of_ble_eq_true rfl⟩ ⟨Nat.le_of_ble_eq_true rfl, Nat.le_of_ble_eq_true rfl⟩ rfl (Nat.le_of_ble_eq_true rfl) dL_both_7 (fun r u H locs hp hW9 hz hk9 hS => ?_)
  have hG := yG_w hG hW9 hp.2 hz hS
  have hr9 := hp.1
  subst hr9
  refine lv_istore (lv' := [(6, .int (zI r1)), (0, .ref q1), (1, .ref q2), (2, .int (zI p2)), (3, .int (zI p3)), (4, .int (zI p4)), (5, .int (zI p5))]) hx hb dL_both_10 hl (by decide) rfl (fun ls hl => ?_)
  refine lv_iload hx hb dL_both_12 (lv_at hl 0 rfl) ?_
  refine lv_aload_n hx hb dL_both_14 rfl (lv_at hl 2 rfl) ?_
  refine lv_iload_n hx hb dL_both_15 rfl (lv_at hl 3 rfl) ?_
  refine lv_iload_n hx hb dL_both_16 rfl (lv_at hl 4 rfl) ?_
  refine lv_iload hx hb dL_both_17 (lv_at hl 5 rfl) ?_
  refine lv_iload hx hb dL_both_19 (lv_at hl 6 rfl) ?_
  obtain ⟨r4, s5, k6, hf⟩ := zb2_some hf
  refine ycSiW (As := [.ref q2, .int (zI p2), .int (zI p3), .int (zI p4), .int (zI p5)]) (rest := [.int (zI r1)]) hx hb hml hown hts hl.1 hK (hX.kept hG.2.2.2.2.1) hNc hG.1.swap (yG_fs hG) hG.2.2.2 (c_L_call hst k6) zk_t3_31 zk_t3_32 zk_t1_0 zk_t3_33 hd_L_call rfl ⟨rfl, rfl, Nat.le_of_ble_eq_true rfl, Nat.le_of_ble_eq_true rfl⟩ ⟨Nat.le_of_ble_eq_true rfl, Nat.le_of_ble_eq_true rfl⟩ rfl (Nat.le_of_ble_eq_true rfl) dL_both_21 (fun r u H locs hp hW9 hz hk9 hS => ?_)
  have hG := yG_s hG hW9 hp.2 hz hS
  have hr9 := hp.1
  subst hr9
  obtain ⟨k7, hf⟩ := zck_some hf
  refine lz_icmp_ne (tgt := 32) hx hb k7 dL_both_24 (by decide) (fun c8 => ?_) (fun c8 => ?_)
  · replace hf := (if_neg c8).symm.trans hf
    refine lv_ldc (v := zI (-2000000099)) hx hb hown (hts _ (show Cond.constant RL 114 (zI (-2000000099)) ∈ wsL_law from zk_t4_63)) dL_both_32 ?_
    cases hf
    exact yreti hx hb hr hlocks hQ hG rfl ⟨Nat.le_of_ble_eq_true rfl, Nat.le_of_ble_eq_true rfl⟩ dL_both_34
  · replace hf := (if_pos c8).symm.trans hf
    refine lv_iload hx hb dL_both_27 (lv_at hl 0 rfl) ?_
    refine lv_goto (tgt := 34) hx hb dL_both_29 (by decide) ?_
    cases hf
    exact yreti hx hb hr hlocks hQ hG rfl ⟨Nat.le_of_ble_eq_true rfl, Nat.le_of_ble_eq_true rfl⟩ dL_both_34
