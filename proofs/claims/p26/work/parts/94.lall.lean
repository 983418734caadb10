abbrev rmL_all : Room := { frames := 8, cells := 0, slots := 0, locals := 189 }
theorem hd_L_all : yL_all.cls ≠ "java/lang/invoke/MethodHandle" ∧ yL_all.cls ≠ "java/lang/invoke/VarHandle" ∧ (parseMethodDescriptor yL_all.desc).map (fun d => d.parameters.length) = some 2 := by decide +kernel
set_option maxHeartbeats 4000000 in
set_option maxRecDepth 100000 in
theorem c_L_all {l : Launch} (hst : l.stackTraces = false) {D : va_G} {cI cZ cF cL cD : ClassId} {q1 q2 qd sz : Nat} {E1 E2 : Nat → Prop} {S1 : yS} {dv : Int → Int} {S2 : yS} {R0 : Int64} (hf : f_L_all S1 dv = some R0) :
    Met l yL_all (Cond.code yL_all cL_all 6 (some .long) :: wsL_law) rmL_all (yPc D (zT cI cZ cF cL cD) sz (yA E1 E2 qd sz) (yW D cI cZ cF q1 E1 S1 q2 E2 S2 qd dv) [.ref q1, .ref qd]) (yQLl D cI cZ cF q1 E1 q2 E2 qd sz (fun r => r = R0) S1 S2 dv) 0 0 (yA E1 E2 qd sz) := by
  refine yMet0 (by decide) (Nat.le_of_ble_eq_true rfl) ?_
  intro p e s m args below meth c Q hx hb hr hlocks hml hown hts hK hX hNc hsz hQ hW9 hS9 ls hl
  subst hsz
  have hG := yG_in hW9 hS9
  have hl : lv_has ls 6 [(0, .ref q1), (1, .ref qd)] := hl
  have L131 : ∀  (n : Nat) (x2 : Int64) (x4 : Int) (x2' : Int64) (x4' : Int), zlp (fun z => f_L_all_L131 S1 dv z.1 z.2) n (x2, x4) = some (x2', x4') → ∀ (F1 F2 : Nat → Prop) (H : Heap) (locs : List Loc) (hG : yG D cI cZ cF q1 F1 S1 q2 F2 S2 qd dv E1 E2 s.heap H locs) (ls : Array Slot) (hl : lv_has ls 6 [(0, .ref q1), (1, .ref qd), (2, .long x2), (4, .int (zI x4))]), (∀ (F1 F2 : Nat → Prop) (H : Heap) (locs : List Loc) (hG : yG D cI cZ cF q1 F1 S1 q2 F2 S2 qd dv E1 E2 s.heap H locs) (ls : Array Slot) (hl : lv_has ls 6 [(0, .ref q1), (2, .long (x2'))]), W p l e rmL_all s m args below meth c H locs 0 0 Q (F0 m 159 ls [])) → W p l e rmL_all s m args below meth c H locs 0 0 Q (F0 m 131 ls []) := by
    intro  n
    induction n with
    | zero => intro x2 x4 x2' x4' hz; exact (zlp_0 hz).elim
    | succ n ih =>
      intro x2 x4 x2' x4' hz F1 F2 H locs hG ls hl kx
      obtain ⟨nx, hf, hnx⟩ := zlp_some hz
      have hf : f_L_all_L131 S1 dv x2 x4 = some nx := hf
      unfold f_L_all_L131 at hf
      refine lv_iload hx hb dL_all_131 (lv_at hl 3 rfl) ?_
      refine lv_aload_n hx hb dL_all_133 rfl (lv_at hl 1 rfl) ?_
      refine lv_iconst (v := zI 3) hx hb dL_all_134 (by decide +kernel) ?_
      refine ygld hx hb hK hG (by decide) dL_all_135 ?_
      obtain ⟨k1, hf⟩ := zck_some hf
      refine lz_icmp_ge (tgt := 159) hx hb k1 dL_all_136 (by decide) (fun c2 => ?_) (fun c2 => ?_)
      · replace hf := (if_pos c2).symm.trans hf
        cases hf
        cases hnx
        exact kx _ _ _ _ hG _ (lv_sub hl [0, 2] rfl)
      · replace hf := (if_neg c2).symm.trans hf
        refine lv_lload_n hx hb dL_all_139 rfl (lv_at hl 2 rfl) ?_
        refine lv_ldc2 (v := 9001) hx hb hown (hts _ zk_t2_213) dL_all_140 ?_
        refine lv_lmul hx hb dL_all_143 ?_
        refine lv_aload_n hx hb dL_all_144 rfl (lv_at hl 0 rfl) ?_
        refine lv_iload hx hb dL_all_145 (lv_at hl 3 rfl) ?_
        obtain ⟨k3, hf⟩ := zck_some hf
        obtain ⟨y4, ey4, hf⟩ := zlt_some hf
        obtain ⟨k5, hf⟩ := zck_some hf
        refine ycVi (C := RX6) (As := [.int (zI x4)]) (rest := [.long (x2 * 9001)]) hx hb hml hown hts hl.1 hK (hX.kept hG.2.2.2.2.1) hNc hG.1.1 (yG_f1 hG) hG.2.2.2 (yn_sewn k3 (by rw [← ey4]; exact k5)) zk_t2_214 zk_t2_215 zk_t2_216 zk_t1_1 zk_t2_217 hd_X6_sewn rfl ⟨rfl, rfl, Nat.le_of_ble_eq_true rfl, Nat.le_of_ble_eq_true rfl⟩ ⟨Nat.le_of_ble_eq_true rfl, Nat.le_of_ble_eq_true rfl⟩ (yOb_recv hK hG.1.1) rfl (Nat.le_of_ble_eq_true rfl) dL_all_147 (fun r F9 H locs hp hO hz hk9 hS => ?_)
        have hG := yG_1 hG hO hp.2 hz hk9 hS
        have hr9 := hp.1
        rw [← ey4] at hr9
        subst hr9
        refine lv_i2l hx hb dL_all_150 rfl ?_
        refine lv_ladd hx hb dL_all_151 ?_
        obtain ⟨v6, ev6, hf⟩ := zlt_some hf
        refine lz_nml ev6 ?_
        refine lv_lstore_n (lv' := [(2, .long v6), (0, .ref q1), (1, .ref qd), (4, .int (zI x4))]) hx hb dL_all_152 rfl hl (by decide) rfl (fun ls hl => ?_)
        refine lz_iinc (lv' := [(4, .int (zI (x4 + 1))), (2, .long v6), (0, .ref q1), (1, .ref qd)]) hx hb dL_all_153 hl (j := 3) rfl (by decide) rfl (fun ls hl => ?_)
        refine lv_goto (tgt := 131) hx hb dL_all_156 (by decide) ?_
        cases hf
        exact ih v6 (x4 + 1) _ _ hnx _ _ _ _ hG _ (lv_sub hl [2, 3, 1, 0] rfl) kx
  have J128 : ∀ (x2 : Int64) (F1 F2 : Nat → Prop) (H : Heap) (locs : List Loc) (hG : yG D cI cZ cF q1 F1 S1 q2 F2 S2 qd dv E1 E2 s.heap H locs) (ls : Array Slot) (hl : lv_has ls 6 [(0, .ref q1), (1, .ref qd), (2, .long x2)]), f_L_all_128 S1 dv x2 = some R0 → W p l e rmL_all s m args below meth c H locs 0 0 Q (F0 m 128 ls []) := by
    intro x2 F1 F2 H locs hG ls hl hf
    unfold f_L_all_128 at hf
    refine lv_iconst (v := zI 0) hx hb dL_all_128 (by decide +kernel) ?_
    refine lv_istore (lv' := [(4, .int (zI 0)), (0, .ref q1), (1, .ref qd), (2, .long x2)]) hx hb dL_all_129 hl (by decide) rfl (fun ls hl => ?_)
    obtain ⟨w8, w9, k7, hf⟩ := zb2_some hf
    refine W.widen (Nat.le_of_ble_eq_true rfl) (Nat.le_of_ble_eq_true rfl) (L131  zFU x2 0 w8 w9 k7 _ _ _ _ hG _ (lv_sub hl [1, 2, 3, 0] rfl) (fun F1 F2 H locs hG ls hl => ?_))
    refine lv_lload_n hx hb dL_all_159 rfl (lv_at hl 1 rfl) ?_
    refine lv_ldc2 (v := 127) hx hb hown (hts _ zk_t2_82) dL_all_160 ?_
    refine lv_lmul hx hb dL_all_163 ?_
    refine lv_aload_n hx hb dL_all_164 rfl (lv_at hl 0 rfl) ?_
    obtain ⟨y10, ey10, hf⟩ := zlt_some hf
    refine ycVi (C := RX6) (As := []) (rest := [.long (w8 * 127)]) hx hb hml hown hts hl.1 hK (hX.kept hG.2.2.2.2.1) hNc hG.1.1 (yG_f1 hG) hG.2.2.2 (yc_fault) zk_t2_223 zk_t2_224 zk_t2_225 zk_t1_1 zk_t2_226 hd_X6_fault rfl ⟨rfl, rfl, Nat.le_of_ble_eq_true rfl, Nat.le_of_ble_eq_true rfl⟩ ⟨Nat.le_of_ble_eq_true rfl, Nat.le_of_ble_eq_true rfl⟩ (yOb_recv hK hG.1.1) rfl (Nat.le_of_ble_eq_true rfl) dL_all_165 (fun r F9 H locs hp hO hz hk9 hS => ?_)
    have hG := yG_1 hG hO hp.2 hz hk9 hS
    have hr9 := hp.1
    rw [← ey10] at hr9
    subst hr9
    refine lv_i2l hx hb dL_all_168 rfl ?_
    refine lv_ladd hx hb dL_all_169 ?_
    refine lv_ldc2 (v := 127) hx hb hown (hts _ zk_t2_82) dL_all_170 ?_
    refine lv_lmul hx hb dL_all_173 ?_
    refine lv_aload_n hx hb dL_all_174 rfl (lv_at hl 0 rfl) ?_
    obtain ⟨y11, ey11, hf⟩ := zlt_some hf
    refine ycVi (C := RX6) (As := []) (rest := [.long (((w8 * 127) + ((zI y10).toInt64)) * 127)]) hx hb hml hown hts hl.1 hK (hX.kept hG.2.2.2.2.1) hNc hG.1.1 (yG_f1 hG) hG.2.2.2 (yc_reads) zk_t3_21 zk_t3_22 zk_t3_23 zk_t1_1 zk_t3_24 hd_X6_reads rfl ⟨rfl, rfl, Nat.le_of_ble_eq_true rfl, Nat.le_of_ble_eq_true rfl⟩ ⟨Nat.le_of_ble_eq_true rfl, Nat.le_of_ble_eq_true rfl⟩ (yOb_recv hK hG.1.1) rfl (Nat.le_of_ble_eq_true rfl) dL_all_175 (fun r F9 H locs hp hO hz hk9 hS => ?_)
    have hG := yG_1 hG hO hp.2 hz hk9 hS
    have hr9 := hp.1
    rw [← ey11] at hr9
    subst hr9
    refine lv_i2l hx hb dL_all_178 rfl ?_
    refine lv_ladd hx hb dL_all_179 ?_
    cases hf
    exact yretl hx hb hr hlocks hQ hG rfl ⟨Nat.le_of_ble_eq_true rfl, Nat.le_of_ble_eq_true rfl⟩ dL_all_180
  have L93 : ∀  (n : Nat) (x2 : Int64) (x4 : Int) (x2' : Int64) (x4' : Int), zlp (fun z => f_L_all_L93 S1 dv z.1 z.2) n (x2, x4) = some (x2', x4') → ∀ (F1 F2 : Nat → Prop) (H : Heap) (locs : List Loc) (hG : yG D cI cZ cF q1 F1 S1 q2 F2 S2 qd dv E1 E2 s.heap H locs) (ls : Array Slot) (hl : lv_has ls 6 [(0, .ref q1), (1, .ref qd), (2, .long x2), (4, .int (zI x4))]), (∀ (F1 F2 : Nat → Prop) (H : Heap) (locs : List Loc) (hG : yG D cI cZ cF q1 F1 S1 q2 F2 S2 qd dv E1 E2 s.heap H locs) (ls : Array Slot) (hl : lv_has ls 6 [(0, .ref q1), (1, .ref qd), (2, .long (x2'))]), W p l e rmL_all s m args below meth c H locs 0 0 Q (F0 m 128 ls [])) → W p l e rmL_all s m args below meth c H locs 0 0 Q (F0 m 93 ls []) := by
    intro  n
    induction n with
    | zero => intro x2 x4 x2' x4' hz; exact (zlp_0 hz).elim
    | succ n ih =>
      intro x2 x4 x2' x4' hz F1 F2 H locs hG ls hl kx
      obtain ⟨nx, hf, hnx⟩ := zlp_some hz
      have hf : f_L_all_L93 S1 dv x2 x4 = some nx := hf
      unfold f_L_all_L93 at hf
      refine lv_iload hx hb dL_all_93 (lv_at hl 3 rfl) ?_
      refine lv_aload_n hx hb dL_all_95 rfl (lv_at hl 1 rfl) ?_
      refine lv_iconst (v := zI 2) hx hb dL_all_96 (by decide +kernel) ?_
      refine ygld hx hb hK hG (by decide) dL_all_97 ?_
      obtain ⟨k12, hf⟩ := zck_some hf
      refine lz_icmp_ge (tgt := 128) hx hb k12 dL_all_98 (by decide) (fun c13 => ?_) (fun c13 => ?_)
      · replace hf := (if_pos c13).symm.trans hf
        cases hf
        cases hnx
        exact kx _ _ _ _ hG _ (lv_sub hl [0, 1, 2] rfl)
      · replace hf := (if_neg c13).symm.trans hf
        refine lv_iload hx hb dL_all_101 (lv_at hl 3 rfl) ?_
        refine lv_bipush (v := zI 40) hx hb dL_all_103 (by decide +kernel) ?_
        obtain ⟨k14, hf⟩ := zck_some hf
        refine lz_icmp_ge (tgt := 128) hx hb ⟨k14, by decide⟩ dL_all_105 (by decide) (fun c15 => ?_) (fun c15 => ?_)
        · replace hf := (if_pos c15).symm.trans hf
          cases hf
          cases hnx
          exact kx _ _ _ _ hG _ (lv_sub hl [0, 1, 2] rfl)
        · replace hf := (if_neg c15).symm.trans hf
          refine lv_lload_n hx hb dL_all_108 rfl (lv_at hl 2 rfl) ?_
          refine lv_ldc2 (v := 257) hx hb hown (hts _ zk_t2_203) dL_all_109 ?_
          refine lv_lmul hx hb dL_all_112 ?_
          refine lv_aload_n hx hb dL_all_113 rfl (lv_at hl 0 rfl) ?_
          refine lv_iload hx hb dL_all_114 (lv_at hl 3 rfl) ?_
          obtain ⟨k16, hf⟩ := zck_some hf
          obtain ⟨y17, ey17, hf⟩ := zlt_some hf
          obtain ⟨k18, hf⟩ := zck_some hf
          refine ycVi (C := RX6) (As := [.int (zI x4)]) (rest := [.long (x2 * 257)]) hx hb hml hown hts hl.1 hK (hX.kept hG.2.2.2.2.1) hNc hG.1.1 (yG_f1 hG) hG.2.2.2 (yn_byteAt k16 (by rw [← ey17]; exact k18)) zk_t2_204 zk_t2_205 zk_t2_206 zk_t1_1 zk_t2_207 hd_X6_byteAt rfl ⟨rfl, rfl, Nat.le_of_ble_eq_true rfl, Nat.le_of_ble_eq_true rfl⟩ ⟨Nat.le_of_ble_eq_true rfl, Nat.le_of_ble_eq_true rfl⟩ (yOb_recv hK hG.1.1) rfl (Nat.le_of_ble_eq_true rfl) dL_all_116 (fun r F9 H locs hp hO hz hk9 hS => ?_)
          have hG := yG_1 hG hO hp.2 hz hk9 hS
          have hr9 := hp.1
          rw [← ey17] at hr9
          subst hr9
          refine lv_i2l hx hb dL_all_119 rfl ?_
          refine lv_ladd hx hb dL_all_120 ?_
          obtain ⟨v19, ev19, hf⟩ := zlt_some hf
          refine lz_nml ev19 ?_
          refine lv_lstore_n (lv' := [(2, .long v19), (0, .ref q1), (1, .ref qd), (4, .int (zI x4))]) hx hb dL_all_121 rfl hl (by decide) rfl (fun ls hl => ?_)
          refine lz_iinc (lv' := [(4, .int (zI (x4 + 1))), (2, .long v19), (0, .ref q1), (1, .ref qd)]) hx hb dL_all_122 hl (j := 3) rfl (by decide) rfl (fun ls hl => ?_)
          refine lv_goto (tgt := 93) hx hb dL_all_125 (by decide) ?_
          cases hf
          exact ih v19 (x4 + 1) _ _ hnx _ _ _ _ hG _ (lv_sub hl [2, 3, 1, 0] rfl) kx
  have L62 : ∀  (n : Nat) (x2 : Int64) (x4 : Int) (x2' : Int64) (x4' : Int), zlp (fun z => f_L_all_L62 S1 dv z.1 z.2) n (x2, x4) = some (x2', x4') → ∀ (F1 F2 : Nat → Prop) (H : Heap) (locs : List Loc) (hG : yG D cI cZ cF q1 F1 S1 q2 F2 S2 qd dv E1 E2 s.heap H locs) (ls : Array Slot) (hl : lv_has ls 6 [(0, .ref q1), (1, .ref qd), (2, .long x2), (4, .int (zI x4))]), (∀ (F1 F2 : Nat → Prop) (H : Heap) (locs : List Loc) (hG : yG D cI cZ cF q1 F1 S1 q2 F2 S2 qd dv E1 E2 s.heap H locs) (ls : Array Slot) (hl : lv_has ls 6 [(0, .ref q1), (1, .ref qd), (2, .long (x2'))]), W p l e rmL_all s m args below meth c H locs 0 0 Q (F0 m 90 ls [])) → W p l e rmL_all s m args below meth c H locs 0 0 Q (F0 m 62 ls []) := by
    intro  n
    induction n with
    | zero => intro x2 x4 x2' x4' hz; exact (zlp_0 hz).elim
    | succ n ih =>
      intro x2 x4 x2' x4' hz F1 F2 H locs hG ls hl kx
      obtain ⟨nx, hf, hnx⟩ := zlp_some hz
      have hf : f_L_all_L62 S1 dv x2 x4 = some nx := hf
      unfold f_L_all_L62 at hf
      refine lv_iload hx hb dL_all_62 (lv_at hl 3 rfl) ?_
      refine lv_aload_n hx hb dL_all_64 rfl (lv_at hl 1 rfl) ?_
      refine lv_iconst (v := zI 0) hx hb dL_all_65 (by decide +kernel) ?_
      refine ygld hx hb hK hG (by decide) dL_all_66 ?_
      obtain ⟨k20, hf⟩ := zck_some hf
      refine lz_icmp_ge (tgt := 90) hx hb k20 dL_all_67 (by decide) (fun c21 => ?_) (fun c21 => ?_)
      · replace hf := (if_pos c21).symm.trans hf
        cases hf
        cases hnx
        exact kx _ _ _ _ hG _ (lv_sub hl [0, 1, 2] rfl)
      · replace hf := (if_neg c21).symm.trans hf
        refine lv_lload_n hx hb dL_all_70 rfl (lv_at hl 2 rfl) ?_
        refine lv_ldc2 (v := 2003) hx hb hown (hts _ zk_t2_178) dL_all_71 ?_
        refine lv_lmul hx hb dL_all_74 ?_
        refine lv_aload_n hx hb dL_all_75 rfl (lv_at hl 0 rfl) ?_
        refine lv_iload hx hb dL_all_76 (lv_at hl 3 rfl) ?_
        obtain ⟨k22, hf⟩ := zck_some hf
        obtain ⟨y23, ey23, hf⟩ := zlt_some hf
        obtain ⟨k24, hf⟩ := zck_some hf
        refine ycVi (C := RX6) (As := [.int (zI x4)]) (rest := [.long (x2 * 2003)]) hx hb hml hown hts hl.1 hK (hX.kept hG.2.2.2.2.1) hNc hG.1.1 (yG_f1 hG) hG.2.2.2 (yn_touched k22 (by rw [← ey23]; exact k24)) zk_t2_179 zk_t2_180 zk_t2_181 zk_t1_1 zk_t2_182 hd_X6_touched rfl ⟨rfl, rfl, Nat.le_of_ble_eq_true rfl, Nat.le_of_ble_eq_true rfl⟩ ⟨Nat.le_of_ble_eq_true rfl, Nat.le_of_ble_eq_true rfl⟩ (yOb_recv hK hG.1.1) rfl (Nat.le_of_ble_eq_true rfl) dL_all_78 (fun r F9 H locs hp hO hz hk9 hS => ?_)
        have hG := yG_1 hG hO hp.2 hz hk9 hS
        have hr9 := hp.1
        rw [← ey23] at hr9
        subst hr9
        refine lv_i2l hx hb dL_all_81 rfl ?_
        refine lv_ladd hx hb dL_all_82 ?_
        obtain ⟨v25, ev25, hf⟩ := zlt_some hf
        refine lz_nml ev25 ?_
        refine lv_lstore_n (lv' := [(2, .long v25), (0, .ref q1), (1, .ref qd), (4, .int (zI x4))]) hx hb dL_all_83 rfl hl (by decide) rfl (fun ls hl => ?_)
        refine lz_iinc (lv' := [(4, .int (zI (x4 + 1))), (2, .long v25), (0, .ref q1), (1, .ref qd)]) hx hb dL_all_84 hl (j := 3) rfl (by decide) rfl (fun ls hl => ?_)
        refine lv_goto (tgt := 62) hx hb dL_all_87 (by decide) ?_
        cases hf
        exact ih v25 (x4 + 1) _ _ hnx _ _ _ _ hG _ (lv_sub hl [2, 3, 1, 0] rfl) kx
  have L13 : ∀  (n : Nat) (x2 : Int64) (x4 : Int) (x2' : Int64) (x4' : Int), zlp (fun z => f_L_all_L13 S1 dv z.1 z.2) n (x2, x4) = some (x2', x4') → ∀ (F1 F2 : Nat → Prop) (H : Heap) (locs : List Loc) (hG : yG D cI cZ cF q1 F1 S1 q2 F2 S2 qd dv E1 E2 s.heap H locs) (ls : Array Slot) (hl : lv_has ls 6 [(0, .ref q1), (1, .ref qd), (2, .long x2), (4, .int (zI x4))]), (∀ (F1 F2 : Nat → Prop) (H : Heap) (locs : List Loc) (hG : yG D cI cZ cF q1 F1 S1 q2 F2 S2 qd dv E1 E2 s.heap H locs) (ls : Array Slot) (hl : lv_has ls 6 [(0, .ref q1), (1, .ref qd), (2, .long (x2'))]), W p l e rmL_all s m args below meth c H locs 0 0 Q (F0 m 59 ls [])) → W p l e rmL_all s m args below meth c H locs 0 0 Q (F0 m 13 ls []) := by
    intro  n
    induction n with
    | zero => intro x2 x4 x2' x4' hz; exact (zlp_0 hz).elim
    | succ n ih =>
      intro x2 x4 x2' x4' hz F1 F2 H locs hG ls hl kx
      obtain ⟨nx, hf, hnx⟩ := zlp_some hz
      have hf : f_L_all_L13 S1 dv x2 x4 = some nx := hf
      have L25 : ∀ (x4 : Int) (n : Nat) (x2 : Int64) (x5 : Int) (x2' : Int64) (x5' : Int), zlp (fun z => f_L_all_L25 S1 dv x4 z.1 z.2) n (x2, x5) = some (x2', x5') → ∀ (F1 F2 : Nat → Prop) (H : Heap) (locs : List Loc) (hG : yG D cI cZ cF q1 F1 S1 q2 F2 S2 qd dv E1 E2 s.heap H locs) (ls : Array Slot) (hl : lv_has ls 6 [(0, .ref q1), (1, .ref qd), (2, .long x2), (4, .int (zI x4)), (5, .int (zI x5))]), (∀ (F1 F2 : Nat → Prop) (H : Heap) (locs : List Loc) (hG : yG D cI cZ cF q1 F1 S1 q2 F2 S2 qd dv E1 E2 s.heap H locs) (ls : Array Slot) (hl : lv_has ls 6 [(0, .ref q1), (1, .ref qd), (2, .long (x2')), (4, .int (zI x4))]), W p l e rmL_all s m args below meth c H locs 0 0 Q (F0 m 53 ls [])) → W p l e rmL_all s m args below meth c H locs 0 0 Q (F0 m 25 ls []) := by
        intro x4 n
        induction n with
        | zero => intro x2 x5 x2' x5' hz; exact (zlp_0 hz).elim
        | succ n ih =>
          intro x2 x5 x2' x5' hz F1 F2 H locs hG ls hl kx
          obtain ⟨nx, hf, hnx⟩ := zlp_some hz
          have hf : f_L_all_L25 S1 dv x4 x2 x5 = some nx := hf
          unfold f_L_all_L25 at hf
          refine lv_iload hx hb dL_all_25 (lv_at hl 4 rfl) ?_
          refine lv_iconst (v := zI 4) hx hb dL_all_27 (by decide +kernel) ?_
          obtain ⟨k26, hf⟩ := zck_some hf
          refine lz_icmp_ge (tgt := 53) hx hb ⟨k26, by decide⟩ dL_all_28 (by decide) (fun c27 => ?_) (fun c27 => ?_)
          · replace hf := (if_pos c27).symm.trans hf
            cases hf
            cases hnx
            exact kx _ _ _ _ hG _ (lv_sub hl [0, 1, 2, 3] rfl)
          · replace hf := (if_neg c27).symm.trans hf
            refine lv_lload_n hx hb dL_all_31 rfl (lv_at hl 2 rfl) ?_
            refine lv_ldc2 (v := 127) hx hb hown (hts _ zk_t2_82) dL_all_32 ?_
            refine lv_lmul hx hb dL_all_35 ?_
            refine lv_aload_n hx hb dL_all_36 rfl (lv_at hl 0 rfl) ?_
            refine lv_iload hx hb dL_all_37 (lv_at hl 3 rfl) ?_
            refine lv_iload hx hb dL_all_39 (lv_at hl 4 rfl) ?_
            obtain ⟨k28, hf⟩ := zck_some hf
            obtain ⟨k29, hf⟩ := zck_some hf
            obtain ⟨y30, ey30, hf⟩ := zlt_some hf
            obtain ⟨k31, hf⟩ := zck_some hf
            refine ycVi (C := RX6) (As := [.int (zI x4), .int (zI x5)]) (rest := [.long (x2 * 127)]) hx hb hml hown hts hl.1 hK (hX.kept hG.2.2.2.2.1) hNc hG.1.1 (yG_f1 hG) hG.2.2.2 (yn_ofCommand ⟨k28, k29⟩ (by rw [← ey30]; exact k31)) zk_t2_83 zk_t2_84 zk_t2_85 zk_t1_1 zk_t2_86 hd_X6_ofCommand rfl ⟨rfl, rfl, Nat.le_of_ble_eq_true rfl, Nat.le_of_ble_eq_true rfl⟩ ⟨Nat.le_of_ble_eq_true rfl, Nat.le_of_ble_eq_true rfl⟩ (yOb_recv hK hG.1.1) rfl (Nat.le_of_ble_eq_true rfl) dL_all_41 (fun r F9 H locs hp hO hz hk9 hS => ?_)
            have hG := yG_1 hG hO hp.2 hz hk9 hS
            have hr9 := hp.1
            rw [← ey30] at hr9
            subst hr9
            refine lv_i2l hx hb dL_all_44 rfl ?_
            refine lv_ladd hx hb dL_all_45 ?_
            obtain ⟨v32, ev32, hf⟩ := zlt_some hf
            refine lz_nml ev32 ?_
            refine lv_lstore_n (lv' := [(2, .long v32), (0, .ref q1), (1, .ref qd), (4, .int (zI x4)), (5, .int (zI x5))]) hx hb dL_all_46 rfl hl (by decide) rfl (fun ls hl => ?_)
            refine lz_iinc (lv' := [(5, .int (zI (x5 + 1))), (2, .long v32), (0, .ref q1), (1, .ref qd), (4, .int (zI x4))]) hx hb dL_all_47 hl (j := 4) rfl (by decide) rfl (fun ls hl => ?_)
            refine lv_goto (tgt := 25) hx hb dL_all_50 (by decide) ?_
            cases hf
            exact ih v32 (x5 + 1) _ _ hnx _ _ _ _ hG _ (lv_sub hl [2, 3, 1, 4, 0] rfl) kx
      unfold f_L_all_L13 at hf
      refine lv_iload hx hb dL_all_13 (lv_at hl 3 rfl) ?_
      refine lv_aload_n hx hb dL_all_15 rfl (lv_at hl 0 rfl) ?_
      obtain ⟨y33, ey33, hf⟩ := zlt_some hf
      refine ycVi (C := RX6) (As := []) (rest := [.int (zI x4)]) hx hb hml hown hts hl.1 hK (hX.kept hG.2.2.2.2.1) hNc hG.1.1 (yG_f1 hG) hG.2.2.2 (yc_commands) zk_t1_189 zk_t1_190 zk_t1_191 zk_t1_1 zk_t1_192 hd_X6_commands rfl ⟨rfl, rfl, Nat.le_of_ble_eq_true rfl, Nat.le_of_ble_eq_true rfl⟩ ⟨Nat.le_of_ble_eq_true rfl, Nat.le_of_ble_eq_true rfl⟩ (yOb_recv hK hG.1.1) rfl (Nat.le_of_ble_eq_true rfl) dL_all_16 (fun r F9 H locs hp hO hz hk9 hS => ?_)
      have hG := yG_1 hG hO hp.2 hz hk9 hS
      have hr9 := hp.1
      rw [← ey33] at hr9
      subst hr9
      obtain ⟨k34, hf⟩ := zck_some hf
      refine lz_icmp_ge (tgt := 59) hx hb k34 dL_all_19 (by decide) (fun c35 => ?_) (fun c35 => ?_)
      · replace hf := (if_pos c35).symm.trans hf
        cases hf
        cases hnx
        exact kx _ _ _ _ hG _ (lv_sub hl [0, 1, 2] rfl)
      · replace hf := (if_neg c35).symm.trans hf
        refine lv_iconst (v := zI 0) hx hb dL_all_22 (by decide +kernel) ?_
        refine lv_istore (lv' := [(5, .int (zI 0)), (0, .ref q1), (1, .ref qd), (2, .long x2), (4, .int (zI x4))]) hx hb dL_all_23 hl (by decide) rfl (fun ls hl => ?_)
        obtain ⟨w37, w38, k36, hf⟩ := zb2_some hf
        refine W.widen (Nat.le_of_ble_eq_true rfl) (Nat.le_of_ble_eq_true rfl) (L25 x4 zFU x2 0 w37 w38 k36 _ _ _ _ hG _ (lv_sub hl [1, 2, 3, 4, 0] rfl) (fun F1 F2 H locs hG ls hl => ?_))
        refine lz_iinc (lv' := [(4, .int (zI (x4 + 1))), (0, .ref q1), (1, .ref qd), (2, .long w37)]) hx hb dL_all_53 hl (j := 3) rfl (by decide) rfl (fun ls hl => ?_)
        refine lv_goto (tgt := 13) hx hb dL_all_56 (by decide) ?_
        cases hf
        exact ih w37 (x4 + 1) _ _ hnx _ _ _ _ hG _ (lv_sub hl [1, 2, 3, 0] rfl) kx
  unfold f_L_all at hf
  refine lv_ldc2 (v := 17) hx hb hown (hts _ zk_t1_188) dL_all_0 ?_
  refine lv_aload_n hx hb dL_all_3 rfl (lv_at hl 0 rfl) ?_
  obtain ⟨y39, ey39, hf⟩ := zlt_some hf
  refine ycVi (C := RX6) (As := []) (rest := [.long 17]) hx hb hml hown hts hl.1 hK (hX.kept hG.2.2.2.2.1) hNc hG.1.1 (yG_f1 hG) hG.2.2.2 (yc_commands) zk_t1_189 zk_t1_190 zk_t1_191 zk_t1_1 zk_t1_192 hd_X6_commands rfl ⟨rfl, rfl, Nat.le_of_ble_eq_true rfl, Nat.le_of_ble_eq_true rfl⟩ ⟨Nat.le_of_ble_eq_true rfl, Nat.le_of_ble_eq_true rfl⟩ (yOb_recv hK hG.1.1) rfl (Nat.le_of_ble_eq_true rfl) dL_all_4 (fun r F9 H locs hp hO hz hk9 hS => ?_)
  have hG := yG_1 hG hO hp.2 hz hk9 hS
  have hr9 := hp.1
  rw [← ey39] at hr9
  subst hr9
  refine lv_i2l hx hb dL_all_7 rfl ?_
  refine lv_ladd hx hb dL_all_8 ?_
  obtain ⟨v40, ev40, hf⟩ := zlt_some hf
  refine lz_nml ev40 ?_
  refine lv_lstore_n (lv' := [(2, .long v40), (0, .ref q1), (1, .ref qd)]) hx hb dL_all_9 rfl hl (by decide) rfl (fun ls hl => ?_)
  refine lv_iconst (v := zI 0) hx hb dL_all_10 (by decide +kernel) ?_
  refine lv_istore (lv' := [(4, .int (zI 0)), (2, .long v40), (0, .ref q1), (1, .ref qd)]) hx hb dL_all_11 hl (by decide) rfl (fun ls hl => ?_)
  obtain ⟨w42, w43, k41, hf⟩ := zb2_some hf
  refine W.widen (Nat.le_of_ble_eq_true rfl) (Nat.le_of_ble_eq_true rfl) (L13  zFU v40 0 w42 w43 k41 _ _ _ _ hG _ (lv_sub hl [2, 3, 1, 0] rfl) (fun F1 F2 H locs hG ls hl => ?_))
  refine lv_iconst (v := zI 0) hx hb dL_all_59 (by decide +kernel) ?_
  refine lv_istore (lv' := [(4, .int (zI 0)), (0, .ref q1), (1, .ref qd), (2, .long w42)]) hx hb dL_all_60 hl (by decide) rfl (fun ls hl => ?_)
  obtain ⟨w45, w46, k44, hf⟩ := zb2_some hf
  refine W.widen (Nat.le_of_ble_eq_true rfl) (Nat.le_of_ble_eq_true rfl) (L62  zFU w42 0 w45 w46 k44 _ _ _ _ hG _ (lv_sub hl [1, 2, 3, 0] rfl) (fun F1 F2 H locs hG ls hl => ?_))
  refine lv_iconst (v := zI 0) hx hb dL_all_90 (by decide +kernel) ?_
  refine lv_istore (lv' := [(4, .int (zI 0)), (0, .ref q1), (1, .ref qd), (2, .long w45)]) hx hb dL_all_91 hl (by decide) rfl (fun ls hl => ?_)
  obtain ⟨w48, w49, k47, hf⟩ := zb2_some hf
  refine W.widen (Nat.le_of_ble_eq_true rfl) (Nat.le_of_ble_eq_true rfl) (L93  zFU w45 0 w48 w49 k47 _ _ _ _ hG _ (lv_sub hl [1, 2, 3, 0] rfl) (fun F1 F2 H locs hG ls hl => ?_))
  refine W.widen (Nat.le_of_ble_eq_true rfl) (Nat.le_of_ble_eq_true rfl) (J128 w48 _ _ _ _ hG _ (lv_sub hl [0, 1, 2] rfl) hf)
abbrev rmL_sound : Room := { frames := 8, cells := 0, slots := 0, locals := 189 }
theorem hd_L_sound : yL_sound.cls ≠ "java/lang/invoke/MethodHandle" ∧ yL_sound.cls ≠ "java/lang/invoke/VarHandle" ∧ (parseMethodDescriptor yL_sound.desc).map (fun d => d.parameters.length) = some 2 := by decide +kernel
set_option maxHeartbeats 4000000 in
set_option maxRecDepth 100000 in
theorem c_L_sound {l : Launch} (hst : l.stackTraces = false) {D : va_G} {cI cZ cF cL cD : ClassId} {q1 q2 qd sz : Nat} {E1 E2 : Nat → Prop} {S1 : yS} {dv : Int → Int} {S2 : yS} {R0 : Int} (hf : f_L_sound S1 dv = some R0) :
    Met l yL_sound (Cond.code yL_sound cL_sound 13 (some .boolean) :: wsL_law) rmL_sound (yPc D (zT cI cZ cF cL cD) sz (yA E1 E2 qd sz) (yW D cI cZ cF q1 E1 S1 q2 E2 S2 qd dv) [.ref q1, .ref qd]) (yQLi D cI cZ cF q1 E1 q2 E2 qd sz (fun r => r = zI R0) S1 S2 dv) 0 0 (yA E1 E2 qd sz) := by
  refine yMet0 (by decide) (Nat.le_of_ble_eq_true rfl) ?_
  intro p e s m args below meth c Q hx hb hr hlocks hml hown hts hK hX hNc hsz hQ hW9 hS9 ls hl
  subst hsz
  have hG := yG_in hW9 hS9
  have hl : lv_has ls 13 [(0, .ref q1), (1, .ref qd)] := hl
  have J280 : ∀ (x5 : Int) (x6 : Int) (F1 F2 : Nat → Prop) (H : Heap) (locs : List Loc) (hG : yG D cI cZ cF q1 F1 S1 q2 F2 S2 qd dv E1 E2 s.heap H locs) (ls : Array Slot) (hl : lv_has ls 13 [(0, .ref q1), (5, .int (zI x5)), (6, .int (zI x6))]), f_L_sound_280 S1 dv x5 x6 = some R0 → W p l e rmL_sound s m args below meth c H locs 0 0 Q (F0 m 280 ls []) := by
    intro x5 x6 F1 F2 H locs hG ls hl hf
    unfold f_L_sound_280 at hf
    refine lv_iload hx hb dL_sound_280 (lv_at hl 2 rfl) ?_
    obtain ⟨k1, hf⟩ := zck_some hf
    refine lz_if_eq (tgt := 317) hx hb k1 dL_sound_282 (by decide) (fun c2 => ?_) (fun c2 => ?_)
    · replace hf := (if_pos c2).symm.trans hf
      refine lv_iconst (v := zI 0) hx hb dL_sound_317 (by decide +kernel) ?_
      cases hf
      exact yretz hx hb hr hlocks hQ hG rfl ⟨Nat.le_of_ble_eq_true rfl, Nat.le_of_ble_eq_true rfl⟩ (z_nar _ (Or.inl rfl)) dL_sound_318
    · replace hf := (if_neg c2).symm.trans hf
      refine lv_aload_n hx hb dL_sound_285 rfl (lv_at hl 0 rfl) ?_
      refine lv_iconst (v := zI 0) hx hb dL_sound_286 (by decide +kernel) ?_
      obtain ⟨y3, ey3, hf⟩ := zlt_some hf
      obtain ⟨k4, hf⟩ := zck_some hf
      refine ycVi (C := RX6) (As := [.int (zI 0)]) (rest := []) hx hb hml hown hts hl.1 hK (hX.kept hG.2.2.2.2.1) hNc hG.1.1 (yG_f1 hG) hG.2.2.2 (yn_count (by decide) (by rw [← ey3]; exact k4)) zk_t3_177 zk_t3_178 zk_t3_179 zk_t1_1 zk_t3_180 hd_X6_count rfl ⟨rfl, rfl, Nat.le_of_ble_eq_true rfl, Nat.le_of_ble_eq_true rfl⟩ ⟨Nat.le_of_ble_eq_true rfl, Nat.le_of_ble_eq_true rfl⟩ (yOb_recv hK hG.1.1) rfl (Nat.le_of_ble_eq_true rfl) dL_sound_287 (fun r F9 H locs hp hO hz hk9 hS => ?_)
      have hG := yG_1 hG hO hp.2 hz hk9 hS
      have hr9 := hp.1
      rw [← ey3] at hr9
      subst hr9
      refine lv_iload hx hb dL_sound_290 (lv_at hl 1 rfl) ?_
      obtain ⟨k5, hf⟩ := zck_some hf
      refine lz_icmp_ne (tgt := 317) hx hb k5 dL_sound_292 (by decide) (fun c6 => ?_) (fun c6 => ?_)
      · replace hf := (if_neg c6).symm.trans hf
        refine lv_iconst (v := zI 0) hx hb dL_sound_317 (by decide +kernel) ?_
        cases hf
        exact yretz hx hb hr hlocks hQ hG rfl ⟨Nat.le_of_ble_eq_true rfl, Nat.le_of_ble_eq_true rfl⟩ (z_nar _ (Or.inl rfl)) dL_sound_318
      · replace hf := (if_pos c6).symm.trans hf
        refine lv_aload_n hx hb dL_sound_295 rfl (lv_at hl 0 rfl) ?_
        refine lv_iconst (v := zI 4) hx hb dL_sound_296 (by decide +kernel) ?_
        obtain ⟨y7, ey7, hf⟩ := zlt_some hf
        obtain ⟨k8, hf⟩ := zck_some hf
        refine ycVi (C := RX6) (As := [.int (zI 4)]) (rest := []) hx hb hml hown hts hl.1 hK (hX.kept hG.2.2.2.2.1) hNc hG.1.1 (yG_f1 hG) hG.2.2.2 (yn_count (by decide) (by rw [← ey7]; exact k8)) zk_t3_177 zk_t3_178 zk_t3_179 zk_t1_1 zk_t3_180 hd_X6_count rfl ⟨rfl, rfl, Nat.le_of_ble_eq_true rfl, Nat.le_of_ble_eq_true rfl⟩ ⟨Nat.le_of_ble_eq_true rfl, Nat.le_of_ble_eq_true rfl⟩ (yOb_recv hK hG.1.1) rfl (Nat.le_of_ble_eq_true rfl) dL_sound_297 (fun r F9 H locs hp hO hz hk9 hS => ?_)
        have hG := yG_1 hG hO hp.2 hz hk9 hS
        have hr9 := hp.1
        rw [← ey7] at hr9
        subst hr9
        refine lv_iconst (v := zI 1) hx hb dL_sound_300 (by decide +kernel) ?_
        obtain ⟨k9, hf⟩ := zck_some hf
        refine lz_icmp_ne (tgt := 317) hx hb ⟨k9, by decide⟩ dL_sound_301 (by decide) (fun c10 => ?_) (fun c10 => ?_)
        · replace hf := (if_neg c10).symm.trans hf
          refine lv_iconst (v := zI 0) hx hb dL_sound_317 (by decide +kernel) ?_
          cases hf
          exact yretz hx hb hr hlocks hQ hG rfl ⟨Nat.le_of_ble_eq_true rfl, Nat.le_of_ble_eq_true rfl⟩ (z_nar _ (Or.inl rfl)) dL_sound_318
        · replace hf := (if_pos c10).symm.trans hf
          refine lv_aload_n hx hb dL_sound_304 rfl (lv_at hl 0 rfl) ?_
          obtain ⟨y11, ey11, hf⟩ := zlt_some hf
          refine ycVf (C := RX6) (As := []) (rest := []) hx hb hml hown hts hl.1 hK (hX.kept hG.2.2.2.2.1) hNc hG.1.1 (yG_f1 hG) hG.2.2.2 (yc_time) zk_t4_85 zk_t4_86 zk_t4_87 zk_t1_1 zk_t4_88 hd_X6_time rfl ⟨rfl, rfl, Nat.le_of_ble_eq_true rfl, Nat.le_of_ble_eq_true rfl⟩ ⟨Nat.le_of_ble_eq_true rfl, Nat.le_of_ble_eq_true rfl⟩ (yOb_recv hK hG.1.1) rfl (Nat.le_of_ble_eq_true rfl) dL_sound_305 (fun r F9 H locs hp hO hz hk9 hS => ?_)
          have hG := yG_1 hG hO hp.2 hz hk9 hS
          have hr9 := hp.1
          rw [← ey11] at hr9
          subst hr9
          refine lv_fconst0 hx hb dL_sound_308 ?_
          refine lz_fcmp hx hb dL_sound_309 ?_
          obtain ⟨k12, hf⟩ := zck_some hf
          refine lz_if_lt (tgt := 317) hx hb k12 dL_sound_310 (by decide) (fun c13 => ?_) (fun c13 => ?_)
          · replace hf := (if_pos c13).symm.trans hf
            refine lv_iconst (v := zI 0) hx hb dL_sound_317 (by decide +kernel) ?_
            cases hf
            exact yretz hx hb hr hlocks hQ hG rfl ⟨Nat.le_of_ble_eq_true rfl, Nat.le_of_ble_eq_true rfl⟩ (z_nar _ (Or.inl rfl)) dL_sound_318
          · replace hf := (if_neg c13).symm.trans hf
            refine lv_iconst (v := zI 1) hx hb dL_sound_313 (by decide +kernel) ?_
            refine lv_goto (tgt := 318) hx hb dL_sound_314 (by decide) ?_
            cases hf
            exact yretz hx hb hr hlocks hQ hG rfl ⟨Nat.le_of_ble_eq_true rfl, Nat.le_of_ble_eq_true rfl⟩ (z_nar _ (Or.inr rfl)) dL_sound_318
  have L39 : ∀ (x2 : Int) (n : Nat) (x3 : Int) (x4 : Int) (x5 : Int) (x6 : Int) (x7 : Int) (x3' : Int) (x4' : Int) (x5' : Int) (x6' : Int) (x7' : Int), zlp (fun z => f_L_sound_L39 S1 dv x2 z.1 z.2.1 z.2.2.1 z.2.2.2.1 z.2.2.2.2) n (x3, x4, x5, x6, x7) = some (x3', x4', x5', x6', x7') → ∀ (F1 F2 : Nat → Prop) (H : Heap) (locs : List Loc) (hG : yG D cI cZ cF q1 F1 S1 q2 F2 S2 qd dv E1 E2 s.heap H locs) (ls : Array Slot) (hl : lv_has ls 13 [(0, .ref q1), (1, .ref qd), (2, .int (zI x2)), (3, .int (zI x3)), (4, .int (zI x4)), (5, .int (zI x5)), (6, .int (zI x6)), (7, .int (zI x7))]), (∀ (F1 F2 : Nat → Prop) (H : Heap) (locs : List Loc) (hG : yG D cI cZ cF q1 F1 S1 q2 F2 S2 qd dv E1 E2 s.heap H locs) (ls : Array Slot) (hl : lv_has ls 13 [(0, .ref q1), (5, .int (zI (x5'))), (6, .int (zI (x6')))]), W p l e rmL_sound s m args below meth c H locs 0 0 Q (F0 m 280 ls [])) → W p l e rmL_sound s m args below meth c H locs 0 0 Q (F0 m 39 ls []) := by
    intro x2 n
    induction n with
    | zero => intro x3 x4 x5 x6 x7 x3' x4' x5' x6' x7' hz; exact (zlp_0 hz).elim
    | succ n ih =>
      intro x3 x4 x5 x6 x7 x3' x4' x5' x6' x7' hz F1 F2 H locs hG ls hl kx
      obtain ⟨nx, hf, hnx⟩ := zlp_some hz
      have hf : f_L_sound_L39 S1 dv x2 x3 x4 x5 x6 x7 = some nx := hf
      have JL39_267 : ∀ (x3 : Int) (x4 : Int) (x5 : Int) (x7 : Int) (F1 F2 : Nat → Prop) (H : Heap) (locs : List Loc) (hG : yG D cI cZ cF q1 F1 S1 q2 F2 S2 qd dv E1 E2 s.heap H locs) (ls : Array Slot) (hl : lv_has ls 13 [(0, .ref q1), (1, .ref qd), (2, .int (zI x2)), (3, .int (zI x3)), (4, .int (zI x4)), (5, .int (zI x5)), (7, .int (zI x7))]), f_L_sound_L39_267 S1 dv x2 x3 x4 x5 x7 = some nx → W p l e rmL_sound s m args below meth c H locs 0 0 Q (F0 m 267 ls []) := by
        intro x3 x4 x5 x7 F1 F2 H locs hG ls hl hf
        unfold f_L_sound_L39_267 at hf
        refine lv_iconst (v := zI 1) hx hb dL_sound_267 (by decide +kernel) ?_
        refine lv_goto (tgt := 272) hx hb dL_sound_268 (by decide) ?_
        refine lv_istore (lv' := [(6, .int (zI 1)), (0, .ref q1), (1, .ref qd), (2, .int (zI x2)), (3, .int (zI x3)), (4, .int (zI x4)), (5, .int (zI x5)), (7, .int (zI x7))]) hx hb dL_sound_272 hl (by decide) rfl (fun ls hl => ?_)
        refine lz_iinc (lv' := [(7, .int (zI (x7 + 1))), (6, .int (zI 1)), (0, .ref q1), (1, .ref qd), (2, .int (zI x2)), (3, .int (zI x3)), (4, .int (zI x4)), (5, .int (zI x5))]) hx hb dL_sound_274 hl (j := 7) rfl (by decide) rfl (fun ls hl => ?_)
        refine lv_goto (tgt := 39) hx hb dL_sound_277 (by decide) ?_
        cases hf
        exact ih x3 x4 x5 1 (x7 + 1) _ _ _ _ _ hnx _ _ _ _ hG _ (lv_sub hl [2, 3, 4, 5, 6, 7, 1, 0] rfl) kx
      have JL39_253 : ∀ (x3 : Int) (x4 : Int) (x5 : Int) (x7 : Int) (x8 : Int) (F1 F2 : Nat → Prop) (H : Heap) (locs : List Loc) (hG : yG D cI cZ cF q1 F1 S1 q2 F2 S2 qd dv E1 E2 s.heap H locs) (ls : Array Slot) (hl : lv_has ls 13 [(0, .ref q1), (1, .ref qd), (2, .int (zI x2)), (3, .int (zI x3)), (4, .int (zI x4)), (5, .int (zI x5)), (7, .int (zI x7)), (8, .int (zI x8))]), f_L_sound_L39_253 S1 dv x2 x3 x4 x5 x7 x8 = some nx → W p l e rmL_sound s m args below meth c H locs 0 0 Q (F0 m 253 ls []) := by
        intro x3 x4 x5 x7 x8 F1 F2 H locs hG ls hl hf
        unfold f_L_sound_L39_253 at hf
        refine lv_iload hx hb dL_sound_253 (lv_at hl 7 rfl) ?_
        refine lv_iconst (v := zI 4) hx hb dL_sound_255 (by decide +kernel) ?_
        obtain ⟨k14, hf⟩ := zck_some hf
        refine lz_icmp_ne (tgt := 267) hx hb ⟨k14, by decide⟩ dL_sound_256 (by decide) (fun c15 => ?_) (fun c15 => ?_)
        · replace hf := (if_neg c15).symm.trans hf
          refine W.widen (Nat.le_of_ble_eq_true rfl) (Nat.le_of_ble_eq_true rfl) (JL39_267 x3 x4 x5 x7 _ _ _ _ hG _ (lv_sub hl [0, 1, 2, 3, 4, 5, 6] rfl) hf)
        · replace hf := (if_pos c15).symm.trans hf
          refine lv_iload hx hb dL_sound_259 (lv_at hl 6 rfl) ?_
          refine lv_iload_n hx hb dL_sound_261 rfl (lv_at hl 2 rfl) ?_
          refine lv_iconst (v := zI 1) hx hb dL_sound_262 (by decide +kernel) ?_
          refine lz_isub hx hb dL_sound_263 ?_
          obtain ⟨k16, hf⟩ := zck_some hf
          refine lz_icmp_ne (tgt := 271) hx hb k16 dL_sound_264 (by decide) (fun c17 => ?_) (fun c17 => ?_)
          · replace hf := (if_neg c17).symm.trans hf
            refine lv_iconst (v := zI 0) hx hb dL_sound_271 (by decide +kernel) ?_
            refine lv_istore (lv' := [(6, .int (zI 0)), (0, .ref q1), (1, .ref qd), (2, .int (zI x2)), (3, .int (zI x3)), (4, .int (zI x4)), (5, .int (zI x5)), (7, .int (zI x7)), (8, .int (zI x8))]) hx hb dL_sound_272 hl (by decide) rfl (fun ls hl => ?_)
            refine lz_iinc (lv' := [(7, .int (zI (x7 + 1))), (6, .int (zI 0)), (0, .ref q1), (1, .ref qd), (2, .int (zI x2)), (3, .int (zI x3)), (4, .int (zI x4)), (5, .int (zI x5)), (8, .int (zI x8))]) hx hb dL_sound_274 hl (j := 7) rfl (by decide) rfl (fun ls hl => ?_)
            refine lv_goto (tgt := 39) hx hb dL_sound_277 (by decide) ?_
            cases hf
            exact ih x3 x4 x5 0 (x7 + 1) _ _ _ _ _ hnx _ _ _ _ hG _ (lv_sub hl [2, 3, 4, 5, 6, 7, 1, 0] rfl) kx
          · replace hf := (if_pos c17).symm.trans hf
            refine W.widen (Nat.le_of_ble_eq_true rfl) (Nat.le_of_ble_eq_true rfl) (JL39_267 x3 x4 x5 x7 _ _ _ _ hG _ (lv_sub hl [0, 1, 2, 3, 4, 5, 6] rfl) hf)
      have JL39_234 : ∀ (x3 : Int) (x4 : Int) (x5 : Int) (x7 : Int) (x8 : Int) (F1 F2 : Nat → Prop) (H : Heap) (locs : List Loc) (hG : yG D cI cZ cF q1 F1 S1 q2 F2 S2 qd dv E1 E2 s.heap H locs) (ls : Array Slot) (hl : lv_has ls 13 [(0, .ref q1), (1, .ref qd), (2, .int (zI x2)), (3, .int (zI x3)), (4, .int (zI x4)), (5, .int (zI x5)), (7, .int (zI x7)), (8, .int (zI x8))]), f_L_sound_L39_234 S1 dv x2 x3 x4 x5 x7 x8 = some nx → W p l e rmL_sound s m args below meth c H locs 0 0 Q (F0 m 234 ls []) := by
        intro x3 x4 x5 x7 x8 F1 F2 H locs hG ls hl hf
        unfold f_L_sound_L39_234 at hf
        refine lv_iload hx hb dL_sound_234 (lv_at hl 7 rfl) ?_
        refine lv_iconst (v := zI 2) hx hb dL_sound_236 (by decide +kernel) ?_
        obtain ⟨k18, hf⟩ := zck_some hf
        refine lz_icmp_ne (tgt := 253) hx hb ⟨k18, by decide⟩ dL_sound_237 (by decide) (fun c19 => ?_) (fun c19 => ?_)
        · replace hf := (if_neg c19).symm.trans hf
          refine W.widen (Nat.le_of_ble_eq_true rfl) (Nat.le_of_ble_eq_true rfl) (JL39_253 x3 x4 x5 x7 x8 _ _ _ _ hG _ (lv_sub hl [0, 1, 2, 3, 4, 5, 6, 7] rfl) hf)
        · replace hf := (if_pos c19).symm.trans hf
          refine lv_aload_n hx hb dL_sound_240 rfl (lv_at hl 0 rfl) ?_
          refine lv_iload hx hb dL_sound_241 (lv_at hl 6 rfl) ?_
          refine lv_iconst (v := zI 1) hx hb dL_sound_243 (by decide +kernel) ?_
          refine lz_iadd hx hb dL_sound_244 ?_
          refine lv_iconst (v := zI 0) hx hb dL_sound_245 (by decide +kernel) ?_
          obtain ⟨k20, hf⟩ := zck_some hf
          obtain ⟨y21, ey21, hf⟩ := zlt_some hf
          obtain ⟨k22, hf⟩ := zck_some hf
          refine ycVi (C := RX6) (As := [.int (zI (x7 + 1)), .int (zI 0)]) (rest := []) hx hb hml hown hts hl.1 hK (hX.kept hG.2.2.2.2.1) hNc hG.1.1 (yG_f1 hG) hG.2.2.2 (yn_ofCommand ⟨k20, (by decide)⟩ (by rw [← ey21]; exact k22)) zk_t2_83 zk_t2_84 zk_t2_85 zk_t1_1 zk_t2_86 hd_X6_ofCommand rfl ⟨rfl, rfl, Nat.le_of_ble_eq_true rfl, Nat.le_of_ble_eq_true rfl⟩ ⟨Nat.le_of_ble_eq_true rfl, Nat.le_of_ble_eq_true rfl⟩ (yOb_recv hK hG.1.1) rfl (Nat.le_of_ble_eq_true rfl) dL_sound_246 (fun r F9 H locs hp hO hz hk9 hS => ?_)
          have hG := yG_1 hG hO hp.2 hz hk9 hS
          have hr9 := hp.1
          rw [← ey21] at hr9
          subst hr9
          refine lv_iconst (v := zI 1) hx hb dL_sound_249 (by decide +kernel) ?_
          obtain ⟨k23, hf⟩ := zck_some hf
          refine lz_icmp_ne (tgt := 271) hx hb ⟨k23, by decide⟩ dL_sound_250 (by decide) (fun c24 => ?_) (fun c24 => ?_)
          · replace hf := (if_neg c24).symm.trans hf
            refine lv_iconst (v := zI 0) hx hb dL_sound_271 (by decide +kernel) ?_
            refine lv_istore (lv' := [(6, .int (zI 0)), (0, .ref q1), (1, .ref qd), (2, .int (zI x2)), (3, .int (zI x3)), (4, .int (zI x4)), (5, .int (zI x5)), (7, .int (zI x7)), (8, .int (zI x8))]) hx hb dL_sound_272 hl (by decide) rfl (fun ls hl => ?_)
            refine lz_iinc (lv' := [(7, .int (zI (x7 + 1))), (6, .int (zI 0)), (0, .ref q1), (1, .ref qd), (2, .int (zI x2)), (3, .int (zI x3)), (4, .int (zI x4)), (5, .int (zI x5)), (8, .int (zI x8))]) hx hb dL_sound_274 hl (j := 7) rfl (by decide) rfl (fun ls hl => ?_)
            refine lv_goto (tgt := 39) hx hb dL_sound_277 (by decide) ?_
            cases hf
            exact ih x3 x4 x5 0 (x7 + 1) _ _ _ _ _ hnx _ _ _ _ hG _ (lv_sub hl [2, 3, 4, 5, 6, 7, 1, 0] rfl) kx
          · replace hf := (if_pos c24).symm.trans hf
            refine W.widen (Nat.le_of_ble_eq_true rfl) (Nat.le_of_ble_eq_true rfl) (JL39_253 x3 x4 x5 x7 x8 _ _ _ _ hG _ (lv_sub hl [0, 1, 2, 3, 4, 5, 6, 7] rfl) hf)
      have JL39_202 : ∀ (x3 : Int) (x4 : Int) (x5 : Int) (x7 : Int) (x8 : Int) (x9 : Int) (x10 : Int) (s0 : Int) (F1 F2 : Nat → Prop) (H : Heap) (locs : List Loc) (hG : yG D cI cZ cF q1 F1 S1 q2 F2 S2 qd dv E1 E2 s.heap H locs) (ls : Array Slot) (hl : lv_has ls 13 [(0, .ref q1), (1, .ref qd), (2, .int (zI x2)), (3, .int (zI x3)), (4, .int (zI x4)), (5, .int (zI x5)), (7, .int (zI x7)), (8, .int (zI x8)), (9, .int (zI x9)), (10, .int (zI x10))]), f_L_sound_L39_202 S1 dv x2 x3 x4 x5 x7 x8 x9 x10 s0 = some nx → W p l e rmL_sound s m args below meth c H locs 0 0 Q (F0 m 202 ls [.int (zI s0)]) := by
        intro x3 x4 x5 x7 x8 x9 x10 s0 F1 F2 H locs hG ls hl hf
        unfold f_L_sound_L39_202 at hf
        refine lv_istore (lv' := [(6, .int (zI s0)), (0, .ref q1), (1, .ref qd), (2, .int (zI x2)), (3, .int (zI x3)), (4, .int (zI x4)), (5, .int (zI x5)), (7, .int (zI x7)), (8, .int (zI x8)), (9, .int (zI x9)), (10, .int (zI x10))]) hx hb dL_sound_202 hl (by decide) rfl (fun ls hl => ?_)
        refine lv_iload hx hb dL_sound_204 (lv_at hl 0 rfl) ?_
        obtain ⟨k25, hf⟩ := zck_some hf
        refine lz_if_eq (tgt := 271) hx hb k25 dL_sound_206 (by decide) (fun c26 => ?_) (fun c26 => ?_)
        · replace hf := (if_pos c26).symm.trans hf
          refine lv_iconst (v := zI 0) hx hb dL_sound_271 (by decide +kernel) ?_
          refine lv_istore (lv' := [(6, .int (zI 0)), (0, .ref q1), (1, .ref qd), (2, .int (zI x2)), (3, .int (zI x3)), (4, .int (zI x4)), (5, .int (zI x5)), (7, .int (zI x7)), (8, .int (zI x8)), (9, .int (zI x9)), (10, .int (zI x10))]) hx hb dL_sound_272 hl (by decide) rfl (fun ls hl => ?_)
          refine lz_iinc (lv' := [(7, .int (zI (x7 + 1))), (6, .int (zI 0)), (0, .ref q1), (1, .ref qd), (2, .int (zI x2)), (3, .int (zI x3)), (4, .int (zI x4)), (5, .int (zI x5)), (8, .int (zI x8)), (9, .int (zI x9)), (10, .int (zI x10))]) hx hb dL_sound_274 hl (j := 7) rfl (by decide) rfl (fun ls hl => ?_)
          refine lv_goto (tgt := 39) hx hb dL_sound_277 (by decide) ?_
          cases hf
          exact ih x3 x4 x5 0 (x7 + 1) _ _ _ _ _ hnx _ _ _ _ hG _ (lv_sub hl [2, 3, 4, 5, 6, 7, 1, 0] rfl) kx
        · replace hf := (if_neg c26).symm.trans hf
          refine lv_iload hx hb dL_sound_209 (lv_at hl 8 rfl) ?_
          obtain ⟨k27, hf⟩ := zck_some hf
          refine lz_if_ne (tgt := 234) hx hb k27 dL_sound_211 (by decide) (fun c28 => ?_) (fun c28 => ?_)
          · replace hf := (if_neg c28).symm.trans hf
            refine W.widen (Nat.le_of_ble_eq_true rfl) (Nat.le_of_ble_eq_true rfl) (JL39_234 x3 x4 x5 x7 x8 _ _ _ _ hG _ (lv_sub hl [1, 2, 3, 4, 5, 6, 7, 8] rfl) hf)
          · replace hf := (if_pos c28).symm.trans hf
            refine lv_iload hx hb dL_sound_214 (lv_at hl 9 rfl) ?_
            obtain ⟨r29, k30, hf⟩ := zb1_some hf
            refine ycSi (As := [.int (zI x9)]) (rest := []) (rm := rmL_size) (mc1 := 0) (ms1 := 0) (Bp := fun _ => True) (U := Unit) (post := fun (r : Int32) (_ : Unit) => r = zI r29) (Bq := fun _ _ => True) hx hb hml hown hts hl.1 hK (hX.kept hG.2.2.2.2.1) hNc trivial (yG_f0 hG) hG.2.2.2 (c_L_size k30) zk_t4_82 zk_t4_83 zk_t1_0 zk_t4_84 hd_L_size rfl ⟨rfl, rfl, Nat.le_of_ble_eq_true rfl, Nat.le_of_ble_eq_true rfl⟩ ⟨Nat.le_of_ble_eq_true rfl, Nat.le_of_ble_eq_true rfl⟩ rfl (Nat.le_of_ble_eq_true rfl) dL_sound_216 (fun r u H locs hp _ hz hk9 hS => ?_)
            have hG := yG_0 hG hz hk9 hS
            subst hp
            refine lv_bipush (v := zI 13) hx hb dL_sound_219 (by decide +kernel) ?_
            obtain ⟨k31, hf⟩ := zck_some hf
            refine lz_icmp_ge (tgt := 271) hx hb ⟨k31, by decide⟩ dL_sound_221 (by decide) (fun c32 => ?_) (fun c32 => ?_)
            · replace hf := (if_pos c32).symm.trans hf
              refine lv_iconst (v := zI 0) hx hb dL_sound_271 (by decide +kernel) ?_
              refine lv_istore (lv' := [(6, .int (zI 0)), (0, .ref q1), (1, .ref qd), (2, .int (zI x2)), (3, .int (zI x3)), (4, .int (zI x4)), (5, .int (zI x5)), (7, .int (zI x7)), (8, .int (zI x8)), (9, .int (zI x9)), (10, .int (zI x10))]) hx hb dL_sound_272 hl (by decide) rfl (fun ls hl => ?_)
              refine lz_iinc (lv' := [(7, .int (zI (x7 + 1))), (6, .int (zI 0)), (0, .ref q1), (1, .ref qd), (2, .int (zI x2)), (3, .int (zI x3)), (4, .int (zI x4)), (5, .int (zI x5)), (8, .int (zI x8)), (9, .int (zI x9)), (10, .int (zI x10))]) hx hb dL_sound_274 hl (j := 7) rfl (by decide) rfl (fun ls hl => ?_)
              refine lv_goto (tgt := 39) hx hb dL_sound_277 (by decide) ?_
              cases hf
              exact ih x3 x4 x5 0 (x7 + 1) _ _ _ _ _ hnx _ _ _ _ hG _ (lv_sub hl [2, 3, 4, 5, 6, 7, 1, 0] rfl) kx
            · replace hf := (if_neg c32).symm.trans hf
              refine lv_iload hx hb dL_sound_224 (lv_at hl 10 rfl) ?_
              obtain ⟨r33, k34, hf⟩ := zb1_some hf
              refine ycSi (As := [.int (zI x10)]) (rest := []) (rm := rmL_size) (mc1 := 0) (ms1 := 0) (Bp := fun _ => True) (U := Unit) (post := fun (r : Int32) (_ : Unit) => r = zI r33) (Bq := fun _ _ => True) hx hb hml hown hts hl.1 hK (hX.kept hG.2.2.2.2.1) hNc trivial (yG_f0 hG) hG.2.2.2 (c_L_size k34) zk_t4_82 zk_t4_83 zk_t1_0 zk_t4_84 hd_L_size rfl ⟨rfl, rfl, Nat.le_of_ble_eq_true rfl, Nat.le_of_ble_eq_true rfl⟩ ⟨Nat.le_of_ble_eq_true rfl, Nat.le_of_ble_eq_true rfl⟩ rfl (Nat.le_of_ble_eq_true rfl) dL_sound_226 (fun r u H locs hp _ hz hk9 hS => ?_)
              have hG := yG_0 hG hz hk9 hS
              subst hp
              refine lv_bipush (v := zI 13) hx hb dL_sound_229 (by decide +kernel) ?_
              obtain ⟨k35, hf⟩ := zck_some hf
              refine lz_icmp_ge (tgt := 271) hx hb ⟨k35, by decide⟩ dL_sound_231 (by decide) (fun c36 => ?_) (fun c36 => ?_)
              · replace hf := (if_pos c36).symm.trans hf
                refine lv_iconst (v := zI 0) hx hb dL_sound_271 (by decide +kernel) ?_
                refine lv_istore (lv' := [(6, .int (zI 0)), (0, .ref q1), (1, .ref qd), (2, .int (zI x2)), (3, .int (zI x3)), (4, .int (zI x4)), (5, .int (zI x5)), (7, .int (zI x7)), (8, .int (zI x8)), (9, .int (zI x9)), (10, .int (zI x10))]) hx hb dL_sound_272 hl (by decide) rfl (fun ls hl => ?_)
                refine lz_iinc (lv' := [(7, .int (zI (x7 + 1))), (6, .int (zI 0)), (0, .ref q1), (1, .ref qd), (2, .int (zI x2)), (3, .int (zI x3)), (4, .int (zI x4)), (5, .int (zI x5)), (8, .int (zI x8)), (9, .int (zI x9)), (10, .int (zI x10))]) hx hb dL_sound_274 hl (j := 7) rfl (by decide) rfl (fun ls hl => ?_)
                refine lv_goto (tgt := 39) hx hb dL_sound_277 (by decide) ?_
                cases hf
                exact ih x3 x4 x5 0 (x7 + 1) _ _ _ _ _ hnx _ _ _ _ hG _ (lv_sub hl [2, 3, 4, 5, 6, 7, 1, 0] rfl) kx
              · replace hf := (if_neg c36).symm.trans hf
                refine W.widen (Nat.le_of_ble_eq_true rfl) (Nat.le_of_ble_eq_true rfl) (JL39_234 x3 x4 x5 x7 x8 _ _ _ _ hG _ (lv_sub hl [1, 2, 3, 4, 5, 6, 7, 8] rfl) hf)
      have JL39_201 : ∀ (x3 : Int) (x4 : Int) (x5 : Int) (x7 : Int) (x8 : Int) (x9 : Int) (x10 : Int) (F1 F2 : Nat → Prop) (H : Heap) (locs : List Loc) (hG : yG D cI cZ cF q1 F1 S1 q2 F2 S2 qd dv E1 E2 s.heap H locs) (ls : Array Slot) (hl : lv_has ls 13 [(0, .ref q1), (1, .ref qd), (2, .int (zI x2)), (3, .int (zI x3)), (4, .int (zI x4)), (5, .int (zI x5)), (7, .int (zI x7)), (8, .int (zI x8)), (9, .int (zI x9)), (10, .int (zI x10))]), f_L_sound_L39_201 S1 dv x2 x3 x4 x5 x7 x8 x9 x10 = some nx → W p l e rmL_sound s m args below meth c H locs 0 0 Q (F0 m 201 ls []) := by
        intro x3 x4 x5 x7 x8 x9 x10 F1 F2 H locs hG ls hl hf
        unfold f_L_sound_L39_201 at hf
        refine lv_iconst (v := zI 0) hx hb dL_sound_201 (by decide +kernel) ?_
        refine W.widen (Nat.le_of_ble_eq_true rfl) (Nat.le_of_ble_eq_true rfl) (JL39_202 x3 x4 x5 x7 x8 x9 x10 0 _ _ _ _ hG _ (lv_sub hl [0, 1, 2, 3, 4, 5, 6, 7, 8, 9] rfl) hf)
      have JL39_182 : ∀ (x3 : Int) (x4 : Int) (x5 : Int) (x7 : Int) (x8 : Int) (x9 : Int) (x10 : Int) (F1 F2 : Nat → Prop) (H : Heap) (locs : List Loc) (hG : yG D cI cZ cF q1 F1 S1 q2 F2 S2 qd dv E1 E2 s.heap H locs) (ls : Array Slot) (hl : lv_has ls 13 [(0, .ref q1), (1, .ref qd), (2, .int (zI x2)), (3, .int (zI x3)), (4, .int (zI x4)), (5, .int (zI x5)), (7, .int (zI x7)), (8, .int (zI x8)), (9, .int (zI x9)), (10, .int (zI x10))]), f_L_sound_L39_182 S1 dv x2 x3 x4 x5 x7 x8 x9 x10 = some nx → W p l e rmL_sound s m args below meth c H locs 0 0 Q (F0 m 182 ls []) := by
        intro x3 x4 x5 x7 x8 x9 x10 F1 F2 H locs hG ls hl hf
        unfold f_L_sound_L39_182 at hf
        refine lv_iconst (v := zI 0) hx hb dL_sound_182 (by decide +kernel) ?_
        refine lv_goto (tgt := 202) hx hb dL_sound_183 (by decide) ?_
        refine W.widen (Nat.le_of_ble_eq_true rfl) (Nat.le_of_ble_eq_true rfl) (JL39_202 x3 x4 x5 x7 x8 x9 x10 0 _ _ _ _ hG _ (lv_sub hl [0, 1, 2, 3, 4, 5, 6, 7, 8, 9] rfl) hf)
      have JL39_128 : ∀ (x3 : Int) (x4 : Int) (x5 : Int) (x7 : Int) (x8 : Int) (x9 : Int) (x10 : Int) (x11 : Int) (s0 : Int) (F1 F2 : Nat → Prop) (H : Heap) (locs : List Loc) (hG : yG D cI cZ cF q1 F1 S1 q2 F2 S2 qd dv E1 E2 s.heap H locs) (ls : Array Slot) (hl : lv_has ls 13 [(0, .ref q1), (1, .ref qd), (2, .int (zI x2)), (3, .int (zI x3)), (4, .int (zI x4)), (5, .int (zI x5)), (7, .int (zI x7)), (8, .int (zI x8)), (9, .int (zI x9)), (10, .int (zI x10)), (11, .int (zI x11))]), f_L_sound_L39_128 S1 dv x2 x3 x4 x5 x7 x8 x9 x10 x11 s0 = some nx → W p l e rmL_sound s m args below meth c H locs 0 0 Q (F0 m 128 ls [.int (zI s0)]) := by
        intro x3 x4 x5 x7 x8 x9 x10 x11 s0 F1 F2 H locs hG ls hl hf
        unfold f_L_sound_L39_128 at hf
        refine lv_istore (lv' := [(12, .int (zI s0)), (0, .ref q1), (1, .ref qd), (2, .int (zI x2)), (3, .int (zI x3)), (4, .int (zI x4)), (5, .int (zI x5)), (7, .int (zI x7)), (8, .int (zI x8)), (9, .int (zI x9)), (10, .int (zI x10)), (11, .int (zI x11))]) hx hb dL_sound_128 hl (by decide) rfl (fun ls hl => ?_)
        refine lv_iload hx hb dL_sound_130 (lv_at hl 8 rfl) ?_
        refine lv_iconst (v := zI 2) hx hb dL_sound_132 (by decide +kernel) ?_
        obtain ⟨k37, hf⟩ := zck_some hf
        refine lz_icmp_ge (tgt := 186) hx hb ⟨k37, by decide⟩ dL_sound_133 (by decide) (fun c38 => ?_) (fun c38 => ?_)
        · replace hf := (if_pos c38).symm.trans hf
          refine lv_iload hx hb dL_sound_186 (lv_at hl 0 rfl) ?_
          obtain ⟨k39, hf⟩ := zck_some hf
          refine lz_if_ne (tgt := 201) hx hb k39 dL_sound_188 (by decide) (fun c40 => ?_) (fun c40 => ?_)
          · replace hf := (if_neg c40).symm.trans hf
            refine W.widen (Nat.le_of_ble_eq_true rfl) (Nat.le_of_ble_eq_true rfl) (JL39_201 x3 x4 x5 x7 x8 x9 x10 _ _ _ _ hG _ (lv_sub hl [1, 2, 3, 4, 5, 6, 7, 8, 9, 10] rfl) hf)
          · replace hf := (if_pos c40).symm.trans hf
            refine lv_iload hx hb dL_sound_191 (lv_at hl 11 rfl) ?_
            refine lv_iconst (v := zI (-1)) hx hb dL_sound_193 (by decide +kernel) ?_
            obtain ⟨k41, hf⟩ := zck_some hf
            refine lz_icmp_ne (tgt := 201) hx hb ⟨k41, by decide⟩ dL_sound_194 (by decide) (fun c42 => ?_) (fun c42 => ?_)
            · replace hf := (if_neg c42).symm.trans hf
              refine W.widen (Nat.le_of_ble_eq_true rfl) (Nat.le_of_ble_eq_true rfl) (JL39_201 x3 x4 x5 x7 x8 x9 x10 _ _ _ _ hG _ (lv_sub hl [1, 2, 3, 4, 5, 6, 7, 8, 9, 10] rfl) hf)
            · replace hf := (if_pos c42).symm.trans hf
              refine lv_iconst (v := zI 1) hx hb dL_sound_197 (by decide +kernel) ?_
              refine lv_goto (tgt := 202) hx hb dL_sound_198 (by decide) ?_
              refine W.widen (Nat.le_of_ble_eq_true rfl) (Nat.le_of_ble_eq_true rfl) (JL39_202 x3 x4 x5 x7 x8 x9 x10 1 _ _ _ _ hG _ (lv_sub hl [1, 2, 3, 4, 5, 6, 7, 8, 9, 10] rfl) hf)
        · replace hf := (if_neg c38).symm.trans hf
          refine lv_iload hx hb dL_sound_136 (lv_at hl 0 rfl) ?_
          obtain ⟨k43, hf⟩ := zck_some hf
          refine lz_if_eq (tgt := 182) hx hb k43 dL_sound_138 (by decide) (fun c44 => ?_) (fun c44 => ?_)
          · replace hf := (if_pos c44).symm.trans hf
            refine W.widen (Nat.le_of_ble_eq_true rfl) (Nat.le_of_ble_eq_true rfl) (JL39_182 x3 x4 x5 x7 x8 x9 x10 _ _ _ _ hG _ (lv_sub hl [1, 2, 3, 4, 5, 6, 7, 8, 9, 10] rfl) hf)
          · replace hf := (if_neg c44).symm.trans hf
            refine lv_iload hx hb dL_sound_141 (lv_at hl 11 rfl) ?_
            obtain ⟨k45, hf⟩ := zck_some hf
            refine lz_if_lt (tgt := 182) hx hb k45 dL_sound_143 (by decide) (fun c46 => ?_) (fun c46 => ?_)
            · replace hf := (if_pos c46).symm.trans hf
              refine W.widen (Nat.le_of_ble_eq_true rfl) (Nat.le_of_ble_eq_true rfl) (JL39_182 x3 x4 x5 x7 x8 x9 x10 _ _ _ _ hG _ (lv_sub hl [1, 2, 3, 4, 5, 6, 7, 8, 9, 10] rfl) hf)
            · replace hf := (if_neg c46).symm.trans hf
              refine lv_iload hx hb dL_sound_146 (lv_at hl 11 rfl) ?_
              refine lv_aload_n hx hb dL_sound_148 rfl (lv_at hl 2 rfl) ?_
              refine lv_iconst (v := zI 0) hx hb dL_sound_149 (by decide +kernel) ?_
              refine ygld hx hb hK hG (by decide) dL_sound_150 ?_
              obtain ⟨k47, hf⟩ := zck_some hf
              refine lz_icmp_ge (tgt := 182) hx hb k47 dL_sound_151 (by decide) (fun c48 => ?_) (fun c48 => ?_)
              · replace hf := (if_pos c48).symm.trans hf
                refine W.widen (Nat.le_of_ble_eq_true rfl) (Nat.le_of_ble_eq_true rfl) (JL39_182 x3 x4 x5 x7 x8 x9 x10 _ _ _ _ hG _ (lv_sub hl [1, 2, 3, 4, 5, 6, 7, 8, 9, 10] rfl) hf)
              · replace hf := (if_neg c48).symm.trans hf
                refine lv_iload_n hx hb dL_sound_154 rfl (lv_at hl 4 rfl) ?_
                refine lv_bipush (v := zI (-4)) hx hb dL_sound_155 (by decide +kernel) ?_
                obtain ⟨k49, hf⟩ := zck_some hf
                refine lz_icmp_le (tgt := 182) hx hb ⟨k49, by decide⟩ dL_sound_157 (by decide) (fun c50 => ?_) (fun c50 => ?_)
                · replace hf := (if_pos c50).symm.trans hf
                  refine W.widen (Nat.le_of_ble_eq_true rfl) (Nat.le_of_ble_eq_true rfl) (JL39_182 x3 x4 x5 x7 x8 x9 x10 _ _ _ _ hG _ (lv_sub hl [1, 2, 3, 4, 5, 6, 7, 8, 9, 10] rfl) hf)
                · replace hf := (if_neg c50).symm.trans hf
                  refine lv_iload_n hx hb dL_sound_160 rfl (lv_at hl 4 rfl) ?_
                  refine lv_bipush (v := zI 36) hx hb dL_sound_161 (by decide +kernel) ?_
                  obtain ⟨k51, hf⟩ := zck_some hf
                  refine lz_icmp_ge (tgt := 182) hx hb ⟨k51, by decide⟩ dL_sound_163 (by decide) (fun c52 => ?_) (fun c52 => ?_)
                  · replace hf := (if_pos c52).symm.trans hf
                    refine W.widen (Nat.le_of_ble_eq_true rfl) (Nat.le_of_ble_eq_true rfl) (JL39_182 x3 x4 x5 x7 x8 x9 x10 _ _ _ _ hG _ (lv_sub hl [1, 2, 3, 4, 5, 6, 7, 8, 9, 10] rfl) hf)
                  · replace hf := (if_neg c52).symm.trans hf
                    refine lv_iload hx hb dL_sound_166 (lv_at hl 5 rfl) ?_
                    obtain ⟨k53, hf⟩ := zck_some hf
                    refine lz_if_lt (tgt := 182) hx hb k53 dL_sound_168 (by decide) (fun c54 => ?_) (fun c54 => ?_)
                    · replace hf := (if_pos c54).symm.trans hf
                      refine W.widen (Nat.le_of_ble_eq_true rfl) (Nat.le_of_ble_eq_true rfl) (JL39_182 x3 x4 x5 x7 x8 x9 x10 _ _ _ _ hG _ (lv_sub hl [1, 2, 3, 4, 5, 6, 7, 8, 9, 10] rfl) hf)
                    · replace hf := (if_neg c54).symm.trans hf
                      refine lv_iload hx hb dL_sound_171 (lv_at hl 5 rfl) ?_
                      refine lv_bipush (v := zI 32) hx hb dL_sound_173 (by decide +kernel) ?_
                      obtain ⟨k55, hf⟩ := zck_some hf
                      refine lz_icmp_ge (tgt := 182) hx hb ⟨k55, by decide⟩ dL_sound_175 (by decide) (fun c56 => ?_) (fun c56 => ?_)
                      · replace hf := (if_pos c56).symm.trans hf
                        refine W.widen (Nat.le_of_ble_eq_true rfl) (Nat.le_of_ble_eq_true rfl) (JL39_182 x3 x4 x5 x7 x8 x9 x10 _ _ _ _ hG _ (lv_sub hl [1, 2, 3, 4, 5, 6, 7, 8, 9, 10] rfl) hf)
                      · replace hf := (if_neg c56).symm.trans hf
                        refine lv_iconst (v := zI 1) hx hb dL_sound_178 (by decide +kernel) ?_
                        refine lv_goto (tgt := 202) hx hb dL_sound_179 (by decide) ?_
                        refine W.widen (Nat.le_of_ble_eq_true rfl) (Nat.le_of_ble_eq_true rfl) (JL39_202 x3 x4 x5 x7 x8 x9 x10 1 _ _ _ _ hG _ (lv_sub hl [1, 2, 3, 4, 5, 6, 7, 8, 9, 10] rfl) hf)
      have JL39_123 : ∀ (x3 : Int) (x4 : Int) (x5 : Int) (x7 : Int) (x8 : Int) (x9 : Int) (x10 : Int) (x11 : Int) (F1 F2 : Nat → Prop) (H : Heap) (locs : List Loc) (hG : yG D cI cZ cF q1 F1 S1 q2 F2 S2 qd dv E1 E2 s.heap H locs) (ls : Array Slot) (hl : lv_has ls 13 [(0, .ref q1), (1, .ref qd), (2, .int (zI x2)), (3, .int (zI x3)), (4, .int (zI x4)), (5, .int (zI x5)), (7, .int (zI x7)), (8, .int (zI x8)), (9, .int (zI x9)), (10, .int (zI x10)), (11, .int (zI x11))]), f_L_sound_L39_123 S1 dv x2 x3 x4 x5 x7 x8 x9 x10 x11 = some nx → W p l e rmL_sound s m args below meth c H locs 0 0 Q (F0 m 123 ls []) := by
        intro x3 x4 x5 x7 x8 x9 x10 x11 F1 F2 H locs hG ls hl hf
        unfold f_L_sound_L39_123 at hf
        refine lv_iconst (v := zI 1) hx hb dL_sound_123 (by decide +kernel) ?_
        refine lv_goto (tgt := 128) hx hb dL_sound_124 (by decide) ?_
        refine W.widen (Nat.le_of_ble_eq_true rfl) (Nat.le_of_ble_eq_true rfl) (JL39_128 x3 x4 x5 x7 x8 x9 x10 x11 1 _ _ _ _ hG _ (lv_sub hl [0, 1, 2, 3, 4, 5, 6, 7, 8, 9, 10] rfl) hf)
      have JL39_110 : ∀ (x3 : Int) (x4 : Int) (x7 : Int) (x8 : Int) (x9 : Int) (x10 : Int) (x11 : Int) (s0 : Int) (s1 : Int) (F1 F2 : Nat → Prop) (H : Heap) (locs : List Loc) (hG : yG D cI cZ cF q1 F1 S1 q2 F2 S2 qd dv E1 E2 s.heap H locs) (ls : Array Slot) (hl : lv_has ls 13 [(0, .ref q1), (1, .ref qd), (2, .int (zI x2)), (3, .int (zI x3)), (4, .int (zI x4)), (7, .int (zI x7)), (8, .int (zI x8)), (9, .int (zI x9)), (10, .int (zI x10)), (11, .int (zI x11))]), f_L_sound_L39_110 S1 dv x2 x3 x4 x7 x8 x9 x10 x11 s0 s1 = some nx → W p l e rmL_sound s m args below meth c H locs 0 0 Q (F0 m 110 ls [.int (zI s1), .int (zI s0)]) := by
        intro x3 x4 x7 x8 x9 x10 x11 s0 s1 F1 F2 H locs hG ls hl hf
        unfold f_L_sound_L39_110 at hf
        refine lz_iadd hx hb dL_sound_110 ?_
        obtain ⟨v57, ev57, hf⟩ := zlt_some hf
        refine lz_nm ev57 ?_
        refine lv_istore (lv' := [(5, .int (zI v57)), (0, .ref q1), (1, .ref qd), (2, .int (zI x2)), (3, .int (zI x3)), (4, .int (zI x4)), (7, .int (zI x7)), (8, .int (zI x8)), (9, .int (zI x9)), (10, .int (zI x10)), (11, .int (zI x11))]) hx hb dL_sound_111 hl (by decide) rfl (fun ls hl => ?_)
        refine lv_iload hx hb dL_sound_113 (lv_at hl 8 rfl) ?_
        obtain ⟨k58, hf⟩ := zck_some hf
        refine lz_if_ne (tgt := 123) hx hb k58 dL_sound_115 (by decide) (fun c59 => ?_) (fun c59 => ?_)
        · replace hf := (if_neg c59).symm.trans hf
          refine W.widen (Nat.le_of_ble_eq_true rfl) (Nat.le_of_ble_eq_true rfl) (JL39_123 x3 x4 v57 x7 x8 x9 x10 x11 _ _ _ _ hG _ (lv_sub hl [1, 2, 3, 4, 5, 0, 6, 7, 8, 9, 10] rfl) hf)
        · replace hf := (if_pos c59).symm.trans hf
          refine lv_iload hx hb dL_sound_118 (lv_at hl 9 rfl) ?_
          obtain ⟨k60, hf⟩ := zck_some hf
          refine lz_if_eq (tgt := 127) hx hb k60 dL_sound_120 (by decide) (fun c61 => ?_) (fun c61 => ?_)
          · replace hf := (if_pos c61).symm.trans hf
            refine lv_iconst (v := zI 0) hx hb dL_sound_127 (by decide +kernel) ?_
            refine W.widen (Nat.le_of_ble_eq_true rfl) (Nat.le_of_ble_eq_true rfl) (JL39_128 x3 x4 v57 x7 x8 x9 x10 x11 0 _ _ _ _ hG _ (lv_sub hl [1, 2, 3, 4, 5, 0, 6, 7, 8, 9, 10] rfl) hf)
          · replace hf := (if_neg c61).symm.trans hf
            refine W.widen (Nat.le_of_ble_eq_true rfl) (Nat.le_of_ble_eq_true rfl) (JL39_123 x3 x4 v57 x7 x8 x9 x10 x11 _ _ _ _ hG _ (lv_sub hl [1, 2, 3, 4, 5, 0, 6, 7, 8, 9, 10] rfl) hf)
      unfold f_L_sound_L39 at hf
      refine lv_iload hx hb dL_sound_39 (lv_at hl 7 rfl) ?_
      refine lv_iload_n hx hb dL_sound_41 rfl (lv_at hl 2 rfl) ?_
      obtain ⟨k62, hf⟩ := zck_some hf
      refine lz_icmp_ge (tgt := 280) hx hb k62 dL_sound_42 (by decide) (fun c63 => ?_) (fun c63 => ?_)
      · replace hf := (if_pos c63).symm.trans hf
        cases hf
        cases hnx
        exact kx _ _ _ _ hG _ (lv_sub hl [0, 5, 6] rfl)
      · replace hf := (if_neg c63).symm.trans hf
        refine lv_iload hx hb dL_sound_45 (lv_at hl 6 rfl) ?_
        obtain ⟨k64, hf⟩ := zck_some hf
        refine lz_if_eq (tgt := 280) hx hb k64 dL_sound_47 (by decide) (fun c65 => ?_) (fun c65 => ?_)
        · replace hf := (if_pos c65).symm.trans hf
          cases hf
          cases hnx
          exact kx _ _ _ _ hG _ (lv_sub hl [0, 5, 6] rfl)
        · replace hf := (if_neg c65).symm.trans hf
          refine lv_aload_n hx hb dL_sound_50 rfl (lv_at hl 0 rfl) ?_
          refine lv_iload hx hb dL_sound_51 (lv_at hl 7 rfl) ?_
          refine lv_iconst (v := zI 0) hx hb dL_sound_53 (by decide +kernel) ?_
          obtain ⟨k66, hf⟩ := zck_some hf
          obtain ⟨y67, ey67, hf⟩ := zlt_some hf
          obtain ⟨k68, hf⟩ := zck_some hf
          refine ycVi (C := RX6) (As := [.int (zI x7), .int (zI 0)]) (rest := []) hx hb hml hown hts hl.1 hK (hX.kept hG.2.2.2.2.1) hNc hG.1.1 (yG_f1 hG) hG.2.2.2 (yn_ofCommand ⟨k66, (by decide)⟩ (by rw [← ey67]; exact k68)) zk_t2_83 zk_t2_84 zk_t2_85 zk_t1_1 zk_t2_86 hd_X6_ofCommand rfl ⟨rfl, rfl, Nat.le_of_ble_eq_true rfl, Nat.le_of_ble_eq_true rfl⟩ ⟨Nat.le_of_ble_eq_true rfl, Nat.le_of_ble_eq_true rfl⟩ (yOb_recv hK hG.1.1) rfl (Nat.le_of_ble_eq_true rfl) dL_sound_54 (fun r F9 H locs hp hO hz hk9 hS => ?_)
          have hG := yG_1 hG hO hp.2 hz hk9 hS
          have hr9 := hp.1
          rw [← ey67] at hr9
          subst hr9
          obtain ⟨v69, ev69, hf⟩ := zlt_some hf
          refine lz_nm ev69 ?_
          refine lv_istore (lv' := [(8, .int (zI v69)), (0, .ref q1), (1, .ref qd), (2, .int (zI x2)), (3, .int (zI x3)), (4, .int (zI x4)), (5, .int (zI x5)), (6, .int (zI x6)), (7, .int (zI x7))]) hx hb dL_sound_57 hl (by decide) rfl (fun ls hl => ?_)
          refine lv_aload_n hx hb dL_sound_59 rfl (lv_at hl 1 rfl) ?_
          refine lv_iload hx hb dL_sound_60 (lv_at hl 8 rfl) ?_
          refine lv_iconst (v := zI 1) hx hb dL_sound_62 (by decide +kernel) ?_
          obtain ⟨k70, hf⟩ := zck_some hf
          obtain ⟨y71, ey71, hf⟩ := zlt_some hf
          obtain ⟨k72, hf⟩ := zck_some hf
          refine ycVi (C := RX6) (As := [.int (zI x7), .int (zI 1)]) (rest := []) hx hb hml hown hts hl.1 hK (hX.kept hG.2.2.2.2.1) hNc hG.1.1 (yG_f1 hG) hG.2.2.2 (yn_ofCommand ⟨k70, (by decide)⟩ (by rw [← ey71]; exact k72)) zk_t2_83 zk_t2_84 zk_t2_85 zk_t1_1 zk_t2_86 hd_X6_ofCommand rfl ⟨rfl, rfl, Nat.le_of_ble_eq_true rfl, Nat.le_of_ble_eq_true rfl⟩ ⟨Nat.le_of_ble_eq_true rfl, Nat.le_of_ble_eq_true rfl⟩ (yOb_recv hK hG.1.1) rfl (Nat.le_of_ble_eq_true rfl) dL_sound_63 (fun r F9 H locs hp hO hz hk9 hS => ?_)
          have hG := yG_1 hG hO hp.2 hz hk9 hS
          have hr9 := hp.1
          rw [← ey71] at hr9
          subst hr9
          obtain ⟨v73, ev73, hf⟩ := zlt_some hf
          refine lz_nm ev73 ?_
          refine lv_istore (lv' := [(9, .int (zI v73)), (8, .int (zI v69)), (0, .ref q1), (1, .ref qd), (2, .int (zI x2)), (3, .int (zI x3)), (4, .int (zI x4)), (5, .int (zI x5)), (6, .int (zI x6)), (7, .int (zI x7))]) hx hb dL_sound_66 hl (by decide) rfl (fun ls hl => ?_)
          refine lv_aload_n hx hb dL_sound_68 rfl (lv_at hl 2 rfl) ?_
          refine lv_iload hx hb dL_sound_69 (lv_at hl 9 rfl) ?_
          refine lv_iconst (v := zI 2) hx hb dL_sound_71 (by decide +kernel) ?_
          obtain ⟨k74, hf⟩ := zck_some hf
          obtain ⟨y75, ey75, hf⟩ := zlt_some hf
          obtain ⟨k76, hf⟩ := zck_some hf
          refine ycVi (C := RX6) (As := [.int (zI x7), .int (zI 2)]) (rest := []) hx hb hml hown hts hl.1 hK (hX.kept hG.2.2.2.2.1) hNc hG.1.1 (yG_f1 hG) hG.2.2.2 (yn_ofCommand ⟨k74, (by decide)⟩ (by rw [← ey75]; exact k76)) zk_t2_83 zk_t2_84 zk_t2_85 zk_t1_1 zk_t2_86 hd_X6_ofCommand rfl ⟨rfl, rfl, Nat.le_of_ble_eq_true rfl, Nat.le_of_ble_eq_true rfl⟩ ⟨Nat.le_of_ble_eq_true rfl, Nat.le_of_ble_eq_true rfl⟩ (yOb_recv hK hG.1.1) rfl (Nat.le_of_ble_eq_true rfl) dL_sound_72 (fun r F9 H locs hp hO hz hk9 hS => ?_)
          have hG := yG_1 hG hO hp.2 hz hk9 hS
          have hr9 := hp.1
          rw [← ey75] at hr9
          subst hr9
          obtain ⟨v77, ev77, hf⟩ := zlt_some hf
          refine lz_nm ev77 ?_
          refine lv_istore (lv' := [(10, .int (zI v77)), (9, .int (zI v73)), (8, .int (zI v69)), (0, .ref q1), (1, .ref qd), (2, .int (zI x2)), (3, .int (zI x3)), (4, .int (zI x4)), (5, .int (zI x5)), (6, .int (zI x6)), (7, .int (zI x7))]) hx hb dL_sound_75 hl (by decide) rfl (fun ls hl => ?_)
          refine lv_aload_n hx hb dL_sound_77 rfl (lv_at hl 3 rfl) ?_
          refine lv_iload hx hb dL_sound_78 (lv_at hl 10 rfl) ?_
          refine lv_iconst (v := zI 3) hx hb dL_sound_80 (by decide +kernel) ?_
          obtain ⟨k78, hf⟩ := zck_some hf
          obtain ⟨y79, ey79, hf⟩ := zlt_some hf
          obtain ⟨k80, hf⟩ := zck_some hf
          refine ycVi (C := RX6) (As := [.int (zI x7), .int (zI 3)]) (rest := []) hx hb hml hown hts hl.1 hK (hX.kept hG.2.2.2.2.1) hNc hG.1.1 (yG_f1 hG) hG.2.2.2 (yn_ofCommand ⟨k78, (by decide)⟩ (by rw [← ey79]; exact k80)) zk_t2_83 zk_t2_84 zk_t2_85 zk_t1_1 zk_t2_86 hd_X6_ofCommand rfl ⟨rfl, rfl, Nat.le_of_ble_eq_true rfl, Nat.le_of_ble_eq_true rfl⟩ ⟨Nat.le_of_ble_eq_true rfl, Nat.le_of_ble_eq_true rfl⟩ (yOb_recv hK hG.1.1) rfl (Nat.le_of_ble_eq_true rfl) dL_sound_81 (fun r F9 H locs hp hO hz hk9 hS => ?_)
          have hG := yG_1 hG hO hp.2 hz hk9 hS
          have hr9 := hp.1
          rw [← ey79] at hr9
          subst hr9
          obtain ⟨v81, ev81, hf⟩ := zlt_some hf
          refine lz_nm ev81 ?_
          refine lv_istore (lv' := [(11, .int (zI v81)), (10, .int (zI v77)), (9, .int (zI v73)), (8, .int (zI v69)), (0, .ref q1), (1, .ref qd), (2, .int (zI x2)), (3, .int (zI x3)), (4, .int (zI x4)), (5, .int (zI x5)), (6, .int (zI x6)), (7, .int (zI x7))]) hx hb dL_sound_84 hl (by decide) rfl (fun ls hl => ?_)
          refine lv_iload_n hx hb dL_sound_86 rfl (lv_at hl 7 rfl) ?_
          refine lv_iload hx hb dL_sound_87 (lv_at hl 2 rfl) ?_
          refine lz_iadd hx hb dL_sound_89 ?_
          obtain ⟨v82, ev82, hf⟩ := zlt_some hf
          refine lz_nm ev82 ?_
          refine lv_istore_n (lv' := [(3, .int (zI v82)), (11, .int (zI v81)), (10, .int (zI v77)), (9, .int (zI v73)), (8, .int (zI v69)), (0, .ref q1), (1, .ref qd), (2, .int (zI x2)), (4, .int (zI x4)), (5, .int (zI x5)), (6, .int (zI x6)), (7, .int (zI x7))]) hx hb dL_sound_90 rfl hl (by decide) rfl (fun ls hl => ?_)
          refine lv_iload hx hb dL_sound_91 (lv_at hl 8 rfl) ?_
          refine lv_iload hx hb dL_sound_93 (lv_at hl 2 rfl) ?_
          refine lz_iadd hx hb dL_sound_95 ?_
          obtain ⟨v83, ev83, hf⟩ := zlt_some hf
          refine lz_nm ev83 ?_
          refine lv_istore (lv' := [(4, .int (zI v83)), (3, .int (zI v82)), (11, .int (zI v81)), (10, .int (zI v77)), (9, .int (zI v73)), (8, .int (zI v69)), (0, .ref q1), (1, .ref qd), (2, .int (zI x2)), (5, .int (zI x5)), (6, .int (zI x6)), (7, .int (zI x7))]) hx hb dL_sound_96 hl (by decide) rfl (fun ls hl => ?_)
          refine lv_iload hx hb dL_sound_98 (lv_at hl 9 rfl) ?_
          refine lv_iload hx hb dL_sound_100 (lv_at hl 5 rfl) ?_
          obtain ⟨k84, hf⟩ := zck_some hf
          refine lz_if_ne (tgt := 109) hx hb k84 dL_sound_102 (by decide) (fun c85 => ?_) (fun c85 => ?_)
          · replace hf := (if_neg c85).symm.trans hf
            refine lv_iconst (v := zI 0) hx hb dL_sound_109 (by decide +kernel) ?_
            refine W.widen (Nat.le_of_ble_eq_true rfl) (Nat.le_of_ble_eq_true rfl) (JL39_110 v82 v83 x7 v69 v73 v77 v81 x5 0 _ _ _ _ hG _ (lv_sub hl [6, 7, 8, 1, 0, 11, 5, 4, 3, 2] rfl) hf)
          · replace hf := (if_pos c85).symm.trans hf
            refine lv_iconst (v := zI 1) hx hb dL_sound_105 (by decide +kernel) ?_
            refine lv_goto (tgt := 110) hx hb dL_sound_106 (by decide) ?_
            refine W.widen (Nat.le_of_ble_eq_true rfl) (Nat.le_of_ble_eq_true rfl) (JL39_110 v82 v83 x7 v69 v73 v77 v81 x5 1 _ _ _ _ hG _ (lv_sub hl [6, 7, 8, 1, 0, 11, 5, 4, 3, 2] rfl) hf)
  have J34 : ∀ (x2 : Int) (x3 : Int) (x4 : Int) (x5 : Int) (s0 : Int) (F1 F2 : Nat → Prop) (H : Heap) (locs : List Loc) (hG : yG D cI cZ cF q1 F1 S1 q2 F2 S2 qd dv E1 E2 s.heap H locs) (ls : Array Slot) (hl : lv_has ls 13 [(0, .ref q1), (1, .ref qd), (2, .int (zI x2)), (3, .int (zI x3)), (4, .int (zI x4)), (5, .int (zI x5))]), f_L_sound_34 S1 dv x2 x3 x4 x5 s0 = some R0 → W p l e rmL_sound s m args below meth c H locs 0 0 Q (F0 m 34 ls [.int (zI s0)]) := by
    intro x2 x3 x4 x5 s0 F1 F2 H locs hG ls hl hf
    unfold f_L_sound_34 at hf
    refine lv_istore (lv' := [(6, .int (zI s0)), (0, .ref q1), (1, .ref qd), (2, .int (zI x2)), (3, .int (zI x3)), (4, .int (zI x4)), (5, .int (zI x5))]) hx hb dL_sound_34 hl (by decide) rfl (fun ls hl => ?_)
    refine lv_iconst (v := zI 0) hx hb dL_sound_36 (by decide +kernel) ?_
    refine lv_istore (lv' := [(7, .int (zI 0)), (6, .int (zI s0)), (0, .ref q1), (1, .ref qd), (2, .int (zI x2)), (3, .int (zI x3)), (4, .int (zI x4)), (5, .int (zI x5))]) hx hb dL_sound_37 hl (by decide) rfl (fun ls hl => ?_)
    obtain ⟨w87, w88, w89, w90, w91, k86, hf⟩ := zb5_some hf
    refine W.widen (Nat.le_of_ble_eq_true rfl) (Nat.le_of_ble_eq_true rfl) (L39 x2 zFU x3 x4 x5 s0 0 w87 w88 w89 w90 w91 k86 _ _ _ _ hG _ (lv_sub hl [2, 3, 4, 5, 6, 7, 1, 0] rfl) (fun F1 F2 H locs hG ls hl => ?_))
    refine W.widen (Nat.le_of_ble_eq_true rfl) (Nat.le_of_ble_eq_true rfl) (J280 w89 w90 _ _ _ _ hG _ (lv_sub hl [0, 1, 2] rfl) hf)
  have J33 : ∀ (x2 : Int) (x3 : Int) (x4 : Int) (x5 : Int) (F1 F2 : Nat → Prop) (H : Heap) (locs : List Loc) (hG : yG D cI cZ cF q1 F1 S1 q2 F2 S2 qd dv E1 E2 s.heap H locs) (ls : Array Slot) (hl : lv_has ls 13 [(0, .ref q1), (1, .ref qd), (2, .int (zI x2)), (3, .int (zI x3)), (4, .int (zI x4)), (5, .int (zI x5))]), f_L_sound_33 S1 dv x2 x3 x4 x5 = some R0 → W p l e rmL_sound s m args below meth c H locs 0 0 Q (F0 m 33 ls []) := by
    intro x2 x3 x4 x5 F1 F2 H locs hG ls hl hf
    unfold f_L_sound_33 at hf
    refine lv_iconst (v := zI 0) hx hb dL_sound_33 (by decide +kernel) ?_
    refine W.widen (Nat.le_of_ble_eq_true rfl) (Nat.le_of_ble_eq_true rfl) (J34 x2 x3 x4 x5 0 _ _ _ _ hG _ (lv_sub hl [0, 1, 2, 3, 4, 5] rfl) hf)
  unfold f_L_sound at hf
  refine lv_aload_n hx hb dL_sound_0 rfl (lv_at hl 0 rfl) ?_
  obtain ⟨y92, ey92, hf⟩ := zlt_some hf
  refine ycVi (C := RX6) (As := []) (rest := []) hx hb hml hown hts hl.1 hK (hX.kept hG.2.2.2.2.1) hNc hG.1.1 (yG_f1 hG) hG.2.2.2 (yc_commands) zk_t1_189 zk_t1_190 zk_t1_191 zk_t1_1 zk_t1_192 hd_X6_commands rfl ⟨rfl, rfl, Nat.le_of_ble_eq_true rfl, Nat.le_of_ble_eq_true rfl⟩ ⟨Nat.le_of_ble_eq_true rfl, Nat.le_of_ble_eq_true rfl⟩ (yOb_recv hK hG.1.1) rfl (Nat.le_of_ble_eq_true rfl) dL_sound_1 (fun r F9 H locs hp hO hz hk9 hS => ?_)
  have hG := yG_1 hG hO hp.2 hz hk9 hS
  have hr9 := hp.1
  rw [← ey92] at hr9
  subst hr9
  refine lv_istore_n (lv' := [(2, .int (zI y92)), (0, .ref q1), (1, .ref qd)]) hx hb dL_sound_4 rfl hl (by decide) rfl (fun ls hl => ?_)
  refine lv_iconst (v := zI 0) hx hb dL_sound_5 (by decide +kernel) ?_
  refine lv_istore_n (lv' := [(3, .int (zI 0)), (2, .int (zI y92)), (0, .ref q1), (1, .ref qd)]) hx hb dL_sound_6 rfl hl (by decide) rfl (fun ls hl => ?_)
  refine lv_iconst (v := zI 0) hx hb dL_sound_7 (by decide +kernel) ?_
  refine lv_istore (lv' := [(4, .int (zI 0)), (3, .int (zI 0)), (2, .int (zI y92)), (0, .ref q1), (1, .ref qd)]) hx hb dL_sound_8 hl (by decide) rfl (fun ls hl => ?_)
  refine lv_iconst (v := zI 0) hx hb dL_sound_10 (by decide +kernel) ?_
  refine lv_istore (lv' := [(5, .int (zI 0)), (4, .int (zI 0)), (3, .int (zI 0)), (2, .int (zI y92)), (0, .ref q1), (1, .ref qd)]) hx hb dL_sound_11 hl (by decide) rfl (fun ls hl => ?_)
  refine lv_iload_n hx hb dL_sound_13 rfl (lv_at hl 3 rfl) ?_
  obtain ⟨k93, hf⟩ := zck_some hf
  refine lz_if_le (tgt := 33) hx hb k93 dL_sound_14 (by decide) (fun c94 => ?_) (fun c94 => ?_)
  · replace hf := (if_pos c94).symm.trans hf
    refine W.widen (Nat.le_of_ble_eq_true rfl) (Nat.le_of_ble_eq_true rfl) (J33 y92 0 0 0 _ _ _ _ hG _ (lv_sub hl [4, 5, 3, 2, 1, 0] rfl) hf)
  · replace hf := (if_neg c94).symm.trans hf
    refine lv_aload_n hx hb dL_sound_17 rfl (lv_at hl 4 rfl) ?_
    refine lv_iload_n hx hb dL_sound_18 rfl (lv_at hl 3 rfl) ?_
    refine lv_iconst (v := zI 1) hx hb dL_sound_19 (by decide +kernel) ?_
    refine lz_isub hx hb dL_sound_20 ?_
    refine lv_iconst (v := zI 0) hx hb dL_sound_21 (by decide +kernel) ?_
    obtain ⟨k95, hf⟩ := zck_some hf
    obtain ⟨y96, ey96, hf⟩ := zlt_some hf
    obtain ⟨k97, hf⟩ := zck_some hf
    refine ycVi (C := RX6) (As := [.int (zI (y92 - 1)), .int (zI 0)]) (rest := []) hx hb hml hown hts hl.1 hK (hX.kept hG.2.2.2.2.1) hNc hG.1.1 (yG_f1 hG) hG.2.2.2 (yn_ofCommand ⟨k95, (by decide)⟩ (by rw [← ey96]; exact k97)) zk_t2_83 zk_t2_84 zk_t2_85 zk_t1_1 zk_t2_86 hd_X6_ofCommand rfl ⟨rfl, rfl, Nat.le_of_ble_eq_true rfl, Nat.le_of_ble_eq_true rfl⟩ ⟨Nat.le_of_ble_eq_true rfl, Nat.le_of_ble_eq_true rfl⟩ (yOb_recv hK hG.1.1) rfl (Nat.le_of_ble_eq_true rfl) dL_sound_22 (fun r F9 H locs hp hO hz hk9 hS => ?_)
    have hG := yG_1 hG hO hp.2 hz hk9 hS
    have hr9 := hp.1
    rw [← ey96] at hr9
    subst hr9
    refine lv_iconst (v := zI 4) hx hb dL_sound_25 (by decide +kernel) ?_
    obtain ⟨k98, hf⟩ := zck_some hf
    refine lz_icmp_ne (tgt := 33) hx hb ⟨k98, by decide⟩ dL_sound_26 (by decide) (fun c99 => ?_) (fun c99 => ?_)
    · replace hf := (if_neg c99).symm.trans hf
      refine W.widen (Nat.le_of_ble_eq_true rfl) (Nat.le_of_ble_eq_true rfl) (J33 y92 0 0 0 _ _ _ _ hG _ (lv_sub hl [4, 5, 3, 2, 1, 0] rfl) hf)
    · replace hf := (if_pos c99).symm.trans hf
      refine lv_iconst (v := zI 1) hx hb dL_sound_29 (by decide +kernel) ?_
      refine lv_goto (tgt := 34) hx hb dL_sound_30 (by decide) ?_
      refine W.widen (Nat.le_of_ble_eq_true rfl) (Nat.le_of_ble_eq_true rfl) (J34 y92 0 0 0 1 _ _ _ _ hG _ (lv_sub hl [4, 5, 3, 2, 1, 0] rfl) hf)
