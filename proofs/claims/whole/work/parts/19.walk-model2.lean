abbrev rmX7_column : Room := { frames := 1, cells := 0, slots := 0, locals := 23 }
theorem hd_X7_column : yX7_column.cls = RX7 ∧ yX7_column.cls ≠ "java/lang/invoke/MethodHandle" ∧ yX7_column.cls ≠ "java/lang/invoke/VarHandle" ∧ (parseMethodDescriptor yX7_column.desc).map (fun d => d.parameters.length) = some 1 := by decide +kernel
set_option maxHeartbeats 4000000 in
set_option maxRecDepth 100000 in
theorem c_X7_column {l : Launch} {D : va_G} {cI cZ cF cL cD : ClassId} {ad : Nat → Nat} {N : Nat} (hI : ∀ i j, i < N → j < N → ad i = ad j → i = j) (hN : 46 ≤ N) {σ0 : Nat → va_E} {sz : Nat} {mo_fields : Int} {mo_cornerX : Int → Int} {mo_cornerY : Int → Int} {mo_density : Int → Int} {mo_bound : Int} {mo_pointX : Int → Int} {mo_pointY : Int → Int} {mo_points : Int} {mo_crossings : Int} {mo_isKnown : Int} {mo_commands : Int} {mo_needleX : Int} {mo_needleY : Int} {mo_hasFile : Int} {mo_format : Int} {mo_length : Int} {mo_heads : Int} {mo_late : Int} {mo_ran : Int} {mo_program : Int} {mo_thrown : Int} {mo_rowY : Int} {mo_stitches : Int} {p1 : Int} {R_mo_pointX : Int → Int} {R_mo_pointY : Int → Int} {R_mo_points : Int} (h_mo : σ0 19 = oC_mo ad mo_fields mo_bound mo_points mo_crossings mo_isKnown mo_commands mo_needleX mo_needleY mo_hasFile mo_format mo_length mo_heads mo_late mo_ran mo_program mo_thrown mo_rowY mo_stitches) (h_mo_cornerX : σ0 24 = .inl (cI, 64, .inl (zA mo_cornerX))) (h_mo_cornerY : σ0 25 = .inl (cI, 64, .inl (zA mo_cornerY))) (h_mo_density : σ0 26 = .inl (cI, 8, .inl (zA mo_density))) (h_mo_pointX : σ0 31 = .inl (cI, 4096, .inl (zA mo_pointX))) (h_mo_pointY : σ0 32 = .inl (cI, 4096, .inl (zA mo_pointY))) (hf : f_X7_column mo_cornerX mo_cornerY mo_density mo_pointX mo_pointY mo_points p1 = some (R_mo_pointX, R_mo_pointY, R_mo_points)) :
    Met l yX7_column (Cond.code yX7_column cX7_column 9 none :: wsL_law) rmX7_column (zPre D ad N (zT cI cZ cF cL cD) σ0 sz [.ref (ad 19), .int (zI p1)]) (zQv D ad N sz (fun σ' => σ' 19 = oC_mo ad mo_fields mo_bound R_mo_points mo_crossings mo_isKnown mo_commands mo_needleX mo_needleY mo_hasFile mo_format mo_length mo_heads mo_late mo_ran mo_program mo_thrown mo_rowY mo_stitches ∧ σ' 31 = .inl (cI, 4096, .inl (zA R_mo_pointX)) ∧ σ' 32 = .inl (cI, 4096, .inl (zA R_mo_pointY)) ∧ ∀ i : Nat, i ≠ 19 → i ≠ 31 → i ≠ 32 → σ' i = σ0 i)) 0 0 (zFr ad N sz) := by
  refine zMet hI (plainFor_of_name (by decide)) (Nat.le_of_ble_eq_true rfl) ⟨rfl, rfl⟩ ?_
  intro p e s m args below meth c Q hx hb hr hlocks hml hown hts hK hsz hQ hH hA ls hl
  subst hsz
  have hk_mo : 19 < N := by omega
  have hk_mo_cornerX : 24 < N := by omega
  have hk_mo_cornerY : 25 < N := by omega
  have hk_mo_density : 26 < N := by omega
  have hk_mo_pointX : 31 < N := by omega
  have hk_mo_pointY : 32 < N := by omega
  have hl : lv_has ls 9 [(0, .ref (ad 19)), (1, .int (zI p1))] := hl
  have hbg : ∀ i : Nat, i ≠ 19 → i ≠ 31 → i ≠ 32 → σ0 i = σ0 i := fun _ _ _ _ => rfl
  have L118 : ∀ (x2 : Int) (x3 : Int) (x4 : Int) (x5 : Int) (x6 : Int) (x7 : Int)  (n : Nat) (x8 : Int) (mo_pointX : Int → Int) (mo_pointY : Int → Int) (mo_points : Int) (x8' : Int) (mo_pointX' : Int → Int) (mo_pointY' : Int → Int) (mo_points' : Int), zlp (fun z => f_X7_column_L118 mo_cornerX mo_cornerY mo_density x2 x3 x4 x5 x6 x7 z.1 z.2.1 z.2.2.1 z.2.2.2) n (x8, mo_pointX, mo_pointY, mo_points) = some (x8', mo_pointX', mo_pointY', mo_points') → ∀ (σ : Nat → va_E) (H : Heap) (locs : List Loc) (hH : zH D ad N (zFr ad N s.heap.size) s.heap σ H locs) (h_mo : σ 19 = oC_mo ad mo_fields mo_bound mo_points mo_crossings mo_isKnown mo_commands mo_needleX mo_needleY mo_hasFile mo_format mo_length mo_heads mo_late mo_ran mo_program mo_thrown mo_rowY mo_stitches) (h_mo_cornerX : σ 24 = .inl (cI, 64, .inl (zA mo_cornerX))) (h_mo_cornerY : σ 25 = .inl (cI, 64, .inl (zA mo_cornerY))) (h_mo_density : σ 26 = .inl (cI, 8, .inl (zA mo_density))) (h_mo_pointX : σ 31 = .inl (cI, 4096, .inl (zA mo_pointX))) (h_mo_pointY : σ 32 = .inl (cI, 4096, .inl (zA mo_pointY))) (hbg : ∀ i : Nat, i ≠ 19 → i ≠ 31 → i ≠ 32 → σ i = σ0 i) (ls : Array Slot) (hl : lv_has ls 9 [(0, .ref (ad 19)), (2, .int (zI x2)), (3, .int (zI x3)), (4, .int (zI x4)), (5, .int (zI x5)), (6, .int (zI x6)), (7, .int (zI x7)), (8, .int (zI x8))]), (∀ (σ : Nat → va_E) (H : Heap) (locs : List Loc) (hH : zH D ad N (zFr ad N s.heap.size) s.heap σ H locs) (h_mo : σ 19 = oC_mo ad mo_fields mo_bound (mo_points') mo_crossings mo_isKnown mo_commands mo_needleX mo_needleY mo_hasFile mo_format mo_length mo_heads mo_late mo_ran mo_program mo_thrown mo_rowY mo_stitches) (h_mo_cornerX : σ 24 = .inl (cI, 64, .inl (zA mo_cornerX))) (h_mo_cornerY : σ 25 = .inl (cI, 64, .inl (zA mo_cornerY))) (h_mo_density : σ 26 = .inl (cI, 8, .inl (zA mo_density))) (h_mo_pointX : σ 31 = .inl (cI, 4096, .inl (zA (mo_pointX')))) (h_mo_pointY : σ 32 = .inl (cI, 4096, .inl (zA (mo_pointY')))) (hbg : ∀ i : Nat, i ≠ 19 → i ≠ 31 → i ≠ 32 → σ i = σ0 i) (ls : Array Slot) (hl : lv_has ls 9 []), W p l e rmX7_column s m args below meth c H locs 0 0 Q (F0 m 210 ls [])) → W p l e rmX7_column s m args below meth c H locs 0 0 Q (F0 m 118 ls []) := by
    intro x2 x3 x4 x5 x6 x7 n
    induction n with
    | zero => intro x8 mo_pointX mo_pointY mo_points x8' mo_pointX' mo_pointY' mo_points' hz; exact (zlp_0 hz).elim
    | succ n ih =>
      intro x8 mo_pointX mo_pointY mo_points x8' mo_pointX' mo_pointY' mo_points' hz σ H locs hH h_mo h_mo_cornerX h_mo_cornerY h_mo_density h_mo_pointX h_mo_pointY hbg ls hl kx
      obtain ⟨nx, hf, hnx⟩ := zlp_some hz
      have hf : f_X7_column_L118 mo_cornerX mo_cornerY mo_density x2 x3 x4 x5 x6 x7 x8 mo_pointX mo_pointY mo_points = some nx := hf
      unfold f_X7_column_L118 at hf
      refine lv_iload hx hb dX7_column_118 (lv_at hl 7 rfl) ?_
      refine lv_iload hx hb dX7_column_120 (lv_at hl 6 rfl) ?_
      obtain ⟨k1, hf⟩ := zck_some hf
      refine lz_icmp_gt (tgt := 210) hx hb k1 dX7_column_122 (by decide) (fun c2 => ?_) (fun c2 => ?_)
      · replace hf := (if_pos c2).symm.trans hf
        cases hf
        cases hnx
        exact kx _ _ _ hH h_mo h_mo_cornerX h_mo_cornerY h_mo_density h_mo_pointX h_mo_pointY hbg _ (lv_sub hl [] rfl)
      · replace hf := (if_neg c2).symm.trans hf
        refine lv_aload_n hx hb dX7_column_125 rfl (lv_at hl 0 rfl) ?_
        refine lv_aload_n hx hb dX7_column_126 rfl (lv_at hl 0 rfl) ?_
        refine zget hx hb inlX7 rfl 5 rfl zk_t4_118 hts hown hK hH hk_mo h_mo rfl dX7_column_127 ?_
        refine lv_iload_n hx hb dX7_column_130 rfl (lv_at hl 1 rfl) ?_
        obtain ⟨k3, hf⟩ := zck_some hf
        refine ziald hx hb hK hH hk_mo_cornerX 0 h_mo_cornerX rfl k3 rfl dX7_column_131 ?_
        refine lv_iload_n hx hb dX7_column_132 rfl (lv_at hl 2 rfl) ?_
        refine lv_iload hx hb dX7_column_133 (lv_at hl 7 rfl) ?_
        refine lz_imul hx hb dX7_column_135 ?_
        refine lv_iload hx hb dX7_column_136 (lv_at hl 6 rfl) ?_
        obtain ⟨r4, k5, hf⟩ := zb1_some hf
        refine zcSi (As := [.int (zI (x3 * x8)), .int (zI x7)]) (rest := [.int (zI (mo_cornerX x2)), .ref (ad 19)]) hx hb hml hown hts hl.1 hK hH hA (c_X7_down hI hN   k5) zk_t5_65 zk_t5_66 zk_t1_6 zk_t5_67 hd_X7_down rfl ⟨rfl, rfl, Nat.le_of_ble_eq_true rfl, Nat.le_of_ble_eq_true rfl⟩ ⟨Nat.zero_le _, Nat.zero_le _⟩ rfl (Nat.le_of_ble_eq_true rfl) dX7_column_138 (fun q7 σ6 Hσ6 lσ6 hp hH => ?_)
        obtain ⟨hr1, hs1⟩ := hp; subst hr1; rw [hs1] at hH
        refine lz_iadd hx hb dX7_column_141 ?_
        refine lv_aload_n hx hb dX7_column_142 rfl (lv_at hl 0 rfl) ?_
        refine zget hx hb inlX7 rfl 6 rfl zk_t4_119 hts hown hK hH hk_mo h_mo rfl dX7_column_143 ?_
        refine lv_iload_n hx hb dX7_column_146 rfl (lv_at hl 1 rfl) ?_
        obtain ⟨k8, hf⟩ := zck_some hf
        refine ziald hx hb hK hH hk_mo_cornerY 0 h_mo_cornerY rfl k8 rfl dX7_column_147 ?_
        refine lv_iload hx hb dX7_column_148 (lv_at hl 3 rfl) ?_
        refine lv_iload hx hb dX7_column_150 (lv_at hl 7 rfl) ?_
        refine lz_imul hx hb dX7_column_152 ?_
        refine lv_iload hx hb dX7_column_153 (lv_at hl 6 rfl) ?_
        obtain ⟨r9, k10, hf⟩ := zb1_some hf
        refine zcSi (As := [.int (zI (x4 * x8)), .int (zI x7)]) (rest := [.int (zI (mo_cornerY x2)), .int (zI ((mo_cornerX x2) + r4)), .ref (ad 19)]) hx hb hml hown hts hl.1 hK hH hA (c_X7_down hI hN   k10) zk_t5_65 zk_t5_66 zk_t1_6 zk_t5_67 hd_X7_down rfl ⟨rfl, rfl, Nat.le_of_ble_eq_true rfl, Nat.le_of_ble_eq_true rfl⟩ ⟨Nat.zero_le _, Nat.zero_le _⟩ rfl (Nat.le_of_ble_eq_true rfl) dX7_column_155 (fun q12 σ11 Hσ11 lσ11 hp hH => ?_)
        obtain ⟨hr1, hs1⟩ := hp; subst hr1; rw [hs1] at hH
        refine lz_iadd hx hb dX7_column_158 ?_
        obtain ⟨a13, a14, u15, k16, hf⟩ := zb3_some hf
        refine zcVv (C := RX7) (As := [.int (zI ((mo_cornerX x2) + r4)), .int (zI ((mo_cornerY x2) + r9))]) (rest := []) hx hb hml hown hts hl.1 hK hH hA (c_X7_point hI hN  h_mo h_mo_pointX h_mo_pointY k16) zk_t5_68 zk_t5_70 zk_s3_4 zk_t1_6 zk_t5_71 hd_X7_point rfl ⟨rfl, rfl, Nat.le_of_ble_eq_true rfl, Nat.le_of_ble_eq_true rfl⟩ ⟨Nat.zero_le _, Nat.zero_le _⟩ hk_mo h_mo rfl rfl rfl (Nat.le_of_ble_eq_true rfl) dX7_column_159 (fun σ17 Hσ17 lσ17 hp hH => ?_)
        obtain ⟨h_mo, h_mo_pointX, h_mo_pointY, hn⟩ := hp
        have h_mo_cornerX := (hn 24 (by decide) (by decide) (by decide)).trans h_mo_cornerX
        have h_mo_cornerY := (hn 25 (by decide) (by decide) (by decide)).trans h_mo_cornerY
        have h_mo_density := (hn 26 (by decide) (by decide) (by decide)).trans h_mo_density
        have hbg : ∀ i : Nat, i ≠ 19 → i ≠ 31 → i ≠ 32 → σ17 i = σ0 i := fun i a0 a1 a2 => (hn i a0 a1 a2).trans (hbg i a0 a1 a2)
        refine lv_aload_n hx hb dX7_column_162 rfl (lv_at hl 0 rfl) ?_
        refine lv_aload_n hx hb dX7_column_163 rfl (lv_at hl 0 rfl) ?_
        refine zget hx hb inlX7 rfl 5 rfl zk_t4_118 hts hown hK hH hk_mo h_mo rfl dX7_column_164 ?_
        refine lv_iload_n hx hb dX7_column_167 rfl (lv_at hl 1 rfl) ?_
        refine lv_iconst (v := zI 3) hx hb dX7_column_168 (by decide +kernel) ?_
        refine lz_iadd hx hb dX7_column_169 ?_
        obtain ⟨k18, hf⟩ := zck_some hf
        refine ziald hx hb hK hH hk_mo_cornerX 0 h_mo_cornerX rfl k18 rfl dX7_column_170 ?_
        refine lv_iload hx hb dX7_column_171 (lv_at hl 4 rfl) ?_
        refine lv_iload hx hb dX7_column_173 (lv_at hl 7 rfl) ?_
        refine lz_imul hx hb dX7_column_175 ?_
        refine lv_iload hx hb dX7_column_176 (lv_at hl 6 rfl) ?_
        obtain ⟨r19, k20, hf⟩ := zb1_some hf
        refine zcSi (As := [.int (zI (x5 * x8)), .int (zI x7)]) (rest := [.int (zI (mo_cornerX (x2 + 3))), .ref (ad 19)]) hx hb hml hown hts hl.1 hK hH hA (c_X7_down hI hN   k20) zk_t5_65 zk_t5_66 zk_t1_6 zk_t5_67 hd_X7_down rfl ⟨rfl, rfl, Nat.le_of_ble_eq_true rfl, Nat.le_of_ble_eq_true rfl⟩ ⟨Nat.zero_le _, Nat.zero_le _⟩ rfl (Nat.le_of_ble_eq_true rfl) dX7_column_178 (fun q22 σ21 Hσ21 lσ21 hp hH => ?_)
        obtain ⟨hr1, hs1⟩ := hp; subst hr1; rw [hs1] at hH
        refine lz_iadd hx hb dX7_column_181 ?_
        refine lv_aload_n hx hb dX7_column_182 rfl (lv_at hl 0 rfl) ?_
        refine zget hx hb inlX7 rfl 6 rfl zk_t4_119 hts hown hK hH hk_mo h_mo rfl dX7_column_183 ?_
        refine lv_iload_n hx hb dX7_column_186 rfl (lv_at hl 1 rfl) ?_
        refine lv_iconst (v := zI 3) hx hb dX7_column_187 (by decide +kernel) ?_
        refine lz_iadd hx hb dX7_column_188 ?_
        obtain ⟨k23, hf⟩ := zck_some hf
        refine ziald hx hb hK hH hk_mo_cornerY 0 h_mo_cornerY rfl k23 rfl dX7_column_189 ?_
        refine lv_iload hx hb dX7_column_190 (lv_at hl 5 rfl) ?_
        refine lv_iload hx hb dX7_column_192 (lv_at hl 7 rfl) ?_
        refine lz_imul hx hb dX7_column_194 ?_
        refine lv_iload hx hb dX7_column_195 (lv_at hl 6 rfl) ?_
        obtain ⟨r24, k25, hf⟩ := zb1_some hf
        refine zcSi (As := [.int (zI (x6 * x8)), .int (zI x7)]) (rest := [.int (zI (mo_cornerY (x2 + 3))), .int (zI ((mo_cornerX (x2 + 3)) + r19)), .ref (ad 19)]) hx hb hml hown hts hl.1 hK hH hA (c_X7_down hI hN   k25) zk_t5_65 zk_t5_66 zk_t1_6 zk_t5_67 hd_X7_down rfl ⟨rfl, rfl, Nat.le_of_ble_eq_true rfl, Nat.le_of_ble_eq_true rfl⟩ ⟨Nat.zero_le _, Nat.zero_le _⟩ rfl (Nat.le_of_ble_eq_true rfl) dX7_column_197 (fun q27 σ26 Hσ26 lσ26 hp hH => ?_)
        obtain ⟨hr1, hs1⟩ := hp; subst hr1; rw [hs1] at hH
        refine lz_iadd hx hb dX7_column_200 ?_
        obtain ⟨a28, a29, u30, k31, hf⟩ := zb3_some hf
        refine zcVv (C := RX7) (As := [.int (zI ((mo_cornerX (x2 + 3)) + r19)), .int (zI ((mo_cornerY (x2 + 3)) + r24))]) (rest := []) hx hb hml hown hts hl.1 hK hH hA (c_X7_point hI hN  h_mo h_mo_pointX h_mo_pointY k31) zk_t5_68 zk_t5_70 zk_s3_4 zk_t1_6 zk_t5_71 hd_X7_point rfl ⟨rfl, rfl, Nat.le_of_ble_eq_true rfl, Nat.le_of_ble_eq_true rfl⟩ ⟨Nat.zero_le _, Nat.zero_le _⟩ hk_mo h_mo rfl rfl rfl (Nat.le_of_ble_eq_true rfl) dX7_column_201 (fun σ32 Hσ32 lσ32 hp hH => ?_)
        obtain ⟨h_mo, h_mo_pointX, h_mo_pointY, hn⟩ := hp
        have h_mo_cornerX := (hn 24 (by decide) (by decide) (by decide)).trans h_mo_cornerX
        have h_mo_cornerY := (hn 25 (by decide) (by decide) (by decide)).trans h_mo_cornerY
        have h_mo_density := (hn 26 (by decide) (by decide) (by decide)).trans h_mo_density
        have hbg : ∀ i : Nat, i ≠ 19 → i ≠ 31 → i ≠ 32 → σ32 i = σ0 i := fun i a0 a1 a2 => (hn i a0 a1 a2).trans (hbg i a0 a1 a2)
        refine lz_iinc (lv' := [(8, .int (zI (x8 + 1))), (0, .ref (ad 19)), (2, .int (zI x2)), (3, .int (zI x3)), (4, .int (zI x4)), (5, .int (zI x5)), (6, .int (zI x6)), (7, .int (zI x7))]) hx hb dX7_column_204 hl (j := 7) rfl (by decide) rfl (fun ls hl => ?_)
        refine lv_goto (tgt := 118) hx hb dX7_column_207 (by decide) ?_
        cases hf
        exact ih (x8 + 1) a28 a29 u30 _ _ _ _ hnx _ _ _ hH h_mo h_mo_cornerX h_mo_cornerY h_mo_density h_mo_pointX h_mo_pointY hbg _ (lv_sub hl [1, 2, 3, 4, 5, 6, 7, 0] rfl) kx
  unfold f_X7_column at hf
  refine lv_bipush (v := zI 8) hx hb dX7_column_0 (by decide +kernel) ?_
  refine lv_iload_n hx hb dX7_column_2 rfl (lv_at hl 1 rfl) ?_
  refine lz_imul hx hb dX7_column_3 ?_
  obtain ⟨v33, ev33, hf⟩ := zlt_some hf
  refine lz_nm ev33 ?_
  refine lv_istore_n (lv' := [(2, .int (zI v33)), (0, .ref (ad 19)), (1, .int (zI p1))]) hx hb dX7_column_4 rfl hl (by decide) rfl (fun ls hl => ?_)
  refine lv_aload_n hx hb dX7_column_5 rfl (lv_at hl 1 rfl) ?_
  refine zget hx hb inlX7 rfl 5 rfl zk_t4_118 hts hown hK hH hk_mo h_mo rfl dX7_column_6 ?_
  refine lv_iload_n hx hb dX7_column_9 rfl (lv_at hl 0 rfl) ?_
  refine lv_iconst (v := zI 1) hx hb dX7_column_10 (by decide +kernel) ?_
  refine lz_iadd hx hb dX7_column_11 ?_
  obtain ⟨k34, hf⟩ := zck_some hf
  refine ziald hx hb hK hH hk_mo_cornerX 0 h_mo_cornerX rfl k34 rfl dX7_column_12 ?_
  refine lv_aload_n hx hb dX7_column_13 rfl (lv_at hl 1 rfl) ?_
  refine zget hx hb inlX7 rfl 5 rfl zk_t4_118 hts hown hK hH hk_mo h_mo rfl dX7_column_14 ?_
  refine lv_iload_n hx hb dX7_column_17 rfl (lv_at hl 0 rfl) ?_
  obtain ⟨k35, hf⟩ := zck_some hf
  refine ziald hx hb hK hH hk_mo_cornerX 0 h_mo_cornerX rfl k35 rfl dX7_column_18 ?_
  refine lz_isub hx hb dX7_column_19 ?_
  obtain ⟨v36, ev36, hf⟩ := zlt_some hf
  refine lz_nm ev36 ?_
  refine lv_istore_n (lv' := [(3, .int (zI v36)), (2, .int (zI v33)), (0, .ref (ad 19)), (1, .int (zI p1))]) hx hb dX7_column_20 rfl hl (by decide) rfl (fun ls hl => ?_)
  refine lv_aload_n hx hb dX7_column_21 rfl (lv_at hl 2 rfl) ?_
  refine zget hx hb inlX7 rfl 6 rfl zk_t4_119 hts hown hK hH hk_mo h_mo rfl dX7_column_22 ?_
  refine lv_iload_n hx hb dX7_column_25 rfl (lv_at hl 1 rfl) ?_
  refine lv_iconst (v := zI 1) hx hb dX7_column_26 (by decide +kernel) ?_
  refine lz_iadd hx hb dX7_column_27 ?_
  obtain ⟨k37, hf⟩ := zck_some hf
  refine ziald hx hb hK hH hk_mo_cornerY 0 h_mo_cornerY rfl k37 rfl dX7_column_28 ?_
  refine lv_aload_n hx hb dX7_column_29 rfl (lv_at hl 2 rfl) ?_
  refine zget hx hb inlX7 rfl 6 rfl zk_t4_119 hts hown hK hH hk_mo h_mo rfl dX7_column_30 ?_
  refine lv_iload_n hx hb dX7_column_33 rfl (lv_at hl 1 rfl) ?_
  obtain ⟨k38, hf⟩ := zck_some hf
  refine ziald hx hb hK hH hk_mo_cornerY 0 h_mo_cornerY rfl k38 rfl dX7_column_34 ?_
  refine lz_isub hx hb dX7_column_35 ?_
  obtain ⟨v39, ev39, hf⟩ := zlt_some hf
  refine lz_nm ev39 ?_
  refine lv_istore (lv' := [(4, .int (zI v39)), (3, .int (zI v36)), (2, .int (zI v33)), (0, .ref (ad 19)), (1, .int (zI p1))]) hx hb dX7_column_36 hl (by decide) rfl (fun ls hl => ?_)
  refine lv_aload_n hx hb dX7_column_38 rfl (lv_at hl 3 rfl) ?_
  refine zget hx hb inlX7 rfl 5 rfl zk_t4_118 hts hown hK hH hk_mo h_mo rfl dX7_column_39 ?_
  refine lv_iload_n hx hb dX7_column_42 rfl (lv_at hl 2 rfl) ?_
  refine lv_iconst (v := zI 2) hx hb dX7_column_43 (by decide +kernel) ?_
  refine lz_iadd hx hb dX7_column_44 ?_
  obtain ⟨k40, hf⟩ := zck_some hf
  refine ziald hx hb hK hH hk_mo_cornerX 0 h_mo_cornerX rfl k40 rfl dX7_column_45 ?_
  refine lv_aload_n hx hb dX7_column_46 rfl (lv_at hl 3 rfl) ?_
  refine zget hx hb inlX7 rfl 5 rfl zk_t4_118 hts hown hK hH hk_mo h_mo rfl dX7_column_47 ?_
  refine lv_iload_n hx hb dX7_column_50 rfl (lv_at hl 2 rfl) ?_
  refine lv_iconst (v := zI 3) hx hb dX7_column_51 (by decide +kernel) ?_
  refine lz_iadd hx hb dX7_column_52 ?_
  obtain ⟨k41, hf⟩ := zck_some hf
  refine ziald hx hb hK hH hk_mo_cornerX 0 h_mo_cornerX rfl k41 rfl dX7_column_53 ?_
  refine lz_isub hx hb dX7_column_54 ?_
  obtain ⟨v42, ev42, hf⟩ := zlt_some hf
  refine lz_nm ev42 ?_
  refine lv_istore (lv' := [(5, .int (zI v42)), (4, .int (zI v39)), (3, .int (zI v36)), (2, .int (zI v33)), (0, .ref (ad 19)), (1, .int (zI p1))]) hx hb dX7_column_55 hl (by decide) rfl (fun ls hl => ?_)
  refine lv_aload_n hx hb dX7_column_57 rfl (lv_at hl 4 rfl) ?_
  refine zget hx hb inlX7 rfl 6 rfl zk_t4_119 hts hown hK hH hk_mo h_mo rfl dX7_column_58 ?_
  refine lv_iload_n hx hb dX7_column_61 rfl (lv_at hl 3 rfl) ?_
  refine lv_iconst (v := zI 2) hx hb dX7_column_62 (by decide +kernel) ?_
  refine lz_iadd hx hb dX7_column_63 ?_
  obtain ⟨k43, hf⟩ := zck_some hf
  refine ziald hx hb hK hH hk_mo_cornerY 0 h_mo_cornerY rfl k43 rfl dX7_column_64 ?_
  refine lv_aload_n hx hb dX7_column_65 rfl (lv_at hl 4 rfl) ?_
  refine zget hx hb inlX7 rfl 6 rfl zk_t4_119 hts hown hK hH hk_mo h_mo rfl dX7_column_66 ?_
  refine lv_iload_n hx hb dX7_column_69 rfl (lv_at hl 3 rfl) ?_
  refine lv_iconst (v := zI 3) hx hb dX7_column_70 (by decide +kernel) ?_
  refine lz_iadd hx hb dX7_column_71 ?_
  obtain ⟨k44, hf⟩ := zck_some hf
  refine ziald hx hb hK hH hk_mo_cornerY 0 h_mo_cornerY rfl k44 rfl dX7_column_72 ?_
  refine lz_isub hx hb dX7_column_73 ?_
  obtain ⟨v45, ev45, hf⟩ := zlt_some hf
  refine lz_nm ev45 ?_
  refine lv_istore (lv' := [(6, .int (zI v45)), (5, .int (zI v42)), (4, .int (zI v39)), (3, .int (zI v36)), (2, .int (zI v33)), (0, .ref (ad 19)), (1, .int (zI p1))]) hx hb dX7_column_74 hl (by decide) rfl (fun ls hl => ?_)
  refine lv_iload_n hx hb dX7_column_76 rfl (lv_at hl 3 rfl) ?_
  obtain ⟨r46, k47, hf⟩ := zb1_some hf
  refine zcSi (As := [.int (zI v36)]) (rest := []) hx hb hml hown hts hl.1 hK hH hA (c_X7_size hI hN   k47) zk_t5_59 zk_t5_60 zk_t1_6 zk_t5_61 hd_X7_size rfl ⟨rfl, rfl, Nat.le_of_ble_eq_true rfl, Nat.le_of_ble_eq_true rfl⟩ ⟨Nat.zero_le _, Nat.zero_le _⟩ rfl (Nat.le_of_ble_eq_true rfl) dX7_column_77 (fun q49 σ48 Hσ48 lσ48 hp hH => ?_)
  obtain ⟨hr1, hs1⟩ := hp; subst hr1; rw [hs1] at hH
  refine lv_iload hx hb dX7_column_80 (lv_at hl 2 rfl) ?_
  obtain ⟨r50, k51, hf⟩ := zb1_some hf
  refine zcSi (As := [.int (zI v39)]) (rest := [.int (zI r46)]) hx hb hml hown hts hl.1 hK hH hA (c_X7_size hI hN   k51) zk_t5_59 zk_t5_60 zk_t1_6 zk_t5_61 hd_X7_size rfl ⟨rfl, rfl, Nat.le_of_ble_eq_true rfl, Nat.le_of_ble_eq_true rfl⟩ ⟨Nat.zero_le _, Nat.zero_le _⟩ rfl (Nat.le_of_ble_eq_true rfl) dX7_column_82 (fun q53 σ52 Hσ52 lσ52 hp hH => ?_)
  obtain ⟨hr1, hs1⟩ := hp; subst hr1; rw [hs1] at hH
  obtain ⟨r54, k55, hf⟩ := zb1_some hf
  refine zcSi (As := [.int (zI r46), .int (zI r50)]) (rest := []) hx hb hml hown hts hl.1 hK hH hA (c_X7_greater hI hN   k55) zk_t5_62 zk_t5_63 zk_t1_6 zk_t5_64 hd_X7_greater rfl ⟨rfl, rfl, Nat.le_of_ble_eq_true rfl, Nat.le_of_ble_eq_true rfl⟩ ⟨Nat.zero_le _, Nat.zero_le _⟩ rfl (Nat.le_of_ble_eq_true rfl) dX7_column_85 (fun q57 σ56 Hσ56 lσ56 hp hH => ?_)
  obtain ⟨hr1, hs1⟩ := hp; subst hr1; rw [hs1] at hH
  refine lv_iload hx hb dX7_column_88 (lv_at hl 1 rfl) ?_
  obtain ⟨r58, k59, hf⟩ := zb1_some hf
  refine zcSi (As := [.int (zI v42)]) (rest := [.int (zI r54)]) hx hb hml hown hts hl.1 hK hH hA (c_X7_size hI hN   k59) zk_t5_59 zk_t5_60 zk_t1_6 zk_t5_61 hd_X7_size rfl ⟨rfl, rfl, Nat.le_of_ble_eq_true rfl, Nat.le_of_ble_eq_true rfl⟩ ⟨Nat.zero_le _, Nat.zero_le _⟩ rfl (Nat.le_of_ble_eq_true rfl) dX7_column_90 (fun q61 σ60 Hσ60 lσ60 hp hH => ?_)
  obtain ⟨hr1, hs1⟩ := hp; subst hr1; rw [hs1] at hH
  refine lv_iload hx hb dX7_column_93 (lv_at hl 0 rfl) ?_
  obtain ⟨r62, k63, hf⟩ := zb1_some hf
  refine zcSi (As := [.int (zI v45)]) (rest := [.int (zI r58), .int (zI r54)]) hx hb hml hown hts hl.1 hK hH hA (c_X7_size hI hN   k63) zk_t5_59 zk_t5_60 zk_t1_6 zk_t5_61 hd_X7_size rfl ⟨rfl, rfl, Nat.le_of_ble_eq_true rfl, Nat.le_of_ble_eq_true rfl⟩ ⟨Nat.zero_le _, Nat.zero_le _⟩ rfl (Nat.le_of_ble_eq_true rfl) dX7_column_95 (fun q65 σ64 Hσ64 lσ64 hp hH => ?_)
  obtain ⟨hr1, hs1⟩ := hp; subst hr1; rw [hs1] at hH
  obtain ⟨r66, k67, hf⟩ := zb1_some hf
  refine zcSi (As := [.int (zI r58), .int (zI r62)]) (rest := [.int (zI r54)]) hx hb hml hown hts hl.1 hK hH hA (c_X7_greater hI hN   k67) zk_t5_62 zk_t5_63 zk_t1_6 zk_t5_64 hd_X7_greater rfl ⟨rfl, rfl, Nat.le_of_ble_eq_true rfl, Nat.le_of_ble_eq_true rfl⟩ ⟨Nat.zero_le _, Nat.zero_le _⟩ rfl (Nat.le_of_ble_eq_true rfl) dX7_column_98 (fun q69 σ68 Hσ68 lσ68 hp hH => ?_)
  obtain ⟨hr1, hs1⟩ := hp; subst hr1; rw [hs1] at hH
  obtain ⟨r70, k71, hf⟩ := zb1_some hf
  refine zcSi (As := [.int (zI r54), .int (zI r66)]) (rest := []) hx hb hml hown hts hl.1 hK hH hA (c_X7_greater hI hN   k71) zk_t5_62 zk_t5_63 zk_t1_6 zk_t5_64 hd_X7_greater rfl ⟨rfl, rfl, Nat.le_of_ble_eq_true rfl, Nat.le_of_ble_eq_true rfl⟩ ⟨Nat.zero_le _, Nat.zero_le _⟩ rfl (Nat.le_of_ble_eq_true rfl) dX7_column_101 (fun q73 σ72 Hσ72 lσ72 hp hH => ?_)
  obtain ⟨hr1, hs1⟩ := hp; subst hr1; rw [hs1] at hH
  refine lv_aload_n hx hb dX7_column_104 rfl (lv_at hl 5 rfl) ?_
  refine zget hx hb inlX7 rfl 7 rfl zk_t4_120 hts hown hK hH hk_mo h_mo rfl dX7_column_105 ?_
  refine lv_iload_n hx hb dX7_column_108 rfl (lv_at hl 6 rfl) ?_
  obtain ⟨k74, hf⟩ := zck_some hf
  refine ziald hx hb hK hH hk_mo_density 0 h_mo_density rfl k74 rfl dX7_column_109 ?_
  obtain ⟨k75, hf⟩ := zck_some hf
  refine lz_idiv hx hb k75 dX7_column_110 ?_
  refine lv_iconst (v := zI 1) hx hb dX7_column_111 (by decide +kernel) ?_
  refine lz_iadd hx hb dX7_column_112 ?_
  obtain ⟨v76, ev76, hf⟩ := zlt_some hf
  refine lz_nm ev76 ?_
  refine lv_istore (lv' := [(7, .int (zI v76)), (6, .int (zI v45)), (5, .int (zI v42)), (4, .int (zI v39)), (3, .int (zI v36)), (2, .int (zI v33)), (0, .ref (ad 19)), (1, .int (zI p1))]) hx hb dX7_column_113 hl (by decide) rfl (fun ls hl => ?_)
  refine lv_iconst (v := zI 0) hx hb dX7_column_115 (by decide +kernel) ?_
  refine lv_istore (lv' := [(8, .int (zI 0)), (7, .int (zI v76)), (6, .int (zI v45)), (5, .int (zI v42)), (4, .int (zI v39)), (3, .int (zI v36)), (2, .int (zI v33)), (0, .ref (ad 19)), (1, .int (zI p1))]) hx hb dX7_column_116 hl (by decide) rfl (fun ls hl => ?_)
  obtain ⟨w78, w79, w80, w81, k77, hf⟩ := zb4_some hf
  refine L118 v33 v36 v39 v42 v45 v76 zFU 0 mo_pointX mo_pointY mo_points w78 w79 w80 w81 k77 _ _ _ hH h_mo h_mo_cornerX h_mo_cornerY h_mo_density h_mo_pointX h_mo_pointY hbg _ (lv_sub hl [7, 6, 5, 4, 3, 2, 1, 0] rfl) (fun σ82 Hσ82 lσ82 hH h_mo h_mo_cornerX h_mo_cornerY h_mo_density h_mo_pointX h_mo_pointY hbg ls hl => ?_)
  cases hf
  exact zretv hx hb hr hlocks hQ hH ⟨h_mo, h_mo_pointX, h_mo_pointY, hbg⟩ dX7_column_210
abbrev rmX7_finds : Room := { frames := 3, cells := 0, slots := 0, locals := 78 }
theorem hd_X7_finds : yX7_finds.cls = RX7 ∧ yX7_finds.cls ≠ "java/lang/invoke/MethodHandle" ∧ yX7_finds.cls ≠ "java/lang/invoke/VarHandle" ∧ (parseMethodDescriptor yX7_finds.desc).map (fun d => d.parameters.length) = some 1 := by decide +kernel
set_option maxHeartbeats 4000000 in
set_option maxRecDepth 100000 in
theorem c_X7_finds {l : Launch} {D : va_G} {cI cZ cF cL cD : ClassId} {ad : Nat → Nat} {N : Nat} (hI : ∀ i j, i < N → j < N → ad i = ad j → i = j) (hN : 46 ≤ N) {σ0 : Nat → va_E} {sz : Nat} {mo_fields : Int} {mo_isColumn : Int → Int} {mo_corners : Int → Int} {mo_cornerX : Int → Int} {mo_cornerY : Int → Int} {mo_density : Int → Int} {mo_longest : Int → Int} {mo_shift : Int → Int} {mo_pull : Int → Int} {mo_hasUnderlay : Int → Int} {mo_bound : Int} {mo_pointX : Int → Int} {mo_pointY : Int → Int} {mo_points : Int} {mo_crossing : Int → Int} {mo_crossings : Int} {mo_isKnown : Int} {mo_commands : Int} {mo_needleX : Int} {mo_needleY : Int} {mo_hasFile : Int} {mo_format : Int} {mo_length : Int} {mo_heads : Int} {mo_late : Int} {mo_ran : Int} {mo_program : Int} {mo_thrown : Int} {mo_rowY : Int} {mo_stitches : Int} {p1 : Int} {R_mo_pointX : Int → Int} {R_mo_pointY : Int → Int} {R_mo_points : Int} {R_mo_crossing : Int → Int} {R_mo_crossings : Int} {R_mo_rowY : Int} (h_mo : σ0 19 = oC_mo ad mo_fields mo_bound mo_points mo_crossings mo_isKnown mo_commands mo_needleX mo_needleY mo_hasFile mo_format mo_length mo_heads mo_late mo_ran mo_program mo_thrown mo_rowY mo_stitches) (h_mo_isColumn : σ0 22 = .inl (cZ, 8, .inl (zA mo_isColumn))) (h_mo_corners : σ0 23 = .inl (cI, 8, .inl (zA mo_corners))) (h_mo_cornerX : σ0 24 = .inl (cI, 64, .inl (zA mo_cornerX))) (h_mo_cornerY : σ0 25 = .inl (cI, 64, .inl (zA mo_cornerY))) (h_mo_density : σ0 26 = .inl (cI, 8, .inl (zA mo_density))) (h_mo_longest : σ0 27 = .inl (cI, 8, .inl (zA mo_longest))) (h_mo_shift : σ0 28 = .inl (cI, 8, .inl (zA mo_shift))) (h_mo_pull : σ0 29 = .inl (cI, 8, .inl (zA mo_pull))) (h_mo_hasUnderlay : σ0 30 = .inl (cZ, 8, .inl (zA mo_hasUnderlay))) (h_mo_pointX : σ0 31 = .inl (cI, 4096, .inl (zA mo_pointX))) (h_mo_pointY : σ0 32 = .inl (cI, 4096, .inl (zA mo_pointY))) (h_mo_crossing : σ0 33 = .inl (cI, 8, .inl (zA mo_crossing))) (hf : f_X7_finds mo_isColumn mo_corners mo_cornerX mo_cornerY mo_density mo_longest mo_shift mo_pull mo_hasUnderlay mo_pointX mo_pointY mo_points mo_crossing mo_crossings mo_rowY p1 = some (R_mo_pointX, R_mo_pointY, R_mo_points, R_mo_crossing, R_mo_crossings, R_mo_rowY)) :
    Met l yX7_finds (Cond.code yX7_finds cX7_finds 2 none :: wsL_law) rmX7_finds (zPre D ad N (zT cI cZ cF cL cD) σ0 sz [.ref (ad 19), .int (zI p1)]) (zQv D ad N sz (fun σ' => σ' 19 = oC_mo ad mo_fields mo_bound R_mo_points R_mo_crossings mo_isKnown mo_commands mo_needleX mo_needleY mo_hasFile mo_format mo_length mo_heads mo_late mo_ran mo_program mo_thrown R_mo_rowY mo_stitches ∧ σ' 31 = .inl (cI, 4096, .inl (zA R_mo_pointX)) ∧ σ' 32 = .inl (cI, 4096, .inl (zA R_mo_pointY)) ∧ σ' 33 = .inl (cI, 8, .inl (zA R_mo_crossing)) ∧ ∀ i : Nat, i ≠ 19 → i ≠ 31 → i ≠ 32 → i ≠ 33 → σ' i = σ0 i)) 0 0 (zFr ad N sz) := by
  refine zMet hI (plainFor_of_name (by decide)) (Nat.le_of_ble_eq_true rfl) ⟨rfl, rfl⟩ ?_
  intro p e s m args below meth c Q hx hb hr hlocks hml hown hts hK hsz hQ hH hA ls hl
  subst hsz
  have hk_mo : 19 < N := by omega
  have hk_mo_isColumn : 22 < N := by omega
  have hk_mo_corners : 23 < N := by omega
  have hk_mo_cornerX : 24 < N := by omega
  have hk_mo_cornerY : 25 < N := by omega
  have hk_mo_density : 26 < N := by omega
  have hk_mo_longest : 27 < N := by omega
  have hk_mo_shift : 28 < N := by omega
  have hk_mo_pull : 29 < N := by omega
  have hk_mo_hasUnderlay : 30 < N := by omega
  have hk_mo_pointX : 31 < N := by omega
  have hk_mo_pointY : 32 < N := by omega
  have hk_mo_crossing : 33 < N := by omega
  have hl : lv_has ls 2 [(0, .ref (ad 19)), (1, .int (zI p1))] := hl
  have hbg : ∀ i : Nat, i ≠ 19 → i ≠ 31 → i ≠ 32 → i ≠ 33 → σ0 i = σ0 i := fun _ _ _ _ _ => rfl
  have J56 : ∀ (mo_pointX : Int → Int) (mo_pointY : Int → Int) (mo_points : Int) (mo_crossing : Int → Int) (mo_crossings : Int) (mo_rowY : Int) (x1 : Int) (σ : Nat → va_E) (H : Heap) (locs : List Loc) (hH : zH D ad N (zFr ad N s.heap.size) s.heap σ H locs) (h_mo : σ 19 = oC_mo ad mo_fields mo_bound mo_points mo_crossings mo_isKnown mo_commands mo_needleX mo_needleY mo_hasFile mo_format mo_length mo_heads mo_late mo_ran mo_program mo_thrown mo_rowY mo_stitches) (h_mo_isColumn : σ 22 = .inl (cZ, 8, .inl (zA mo_isColumn))) (h_mo_corners : σ 23 = .inl (cI, 8, .inl (zA mo_corners))) (h_mo_cornerX : σ 24 = .inl (cI, 64, .inl (zA mo_cornerX))) (h_mo_cornerY : σ 25 = .inl (cI, 64, .inl (zA mo_cornerY))) (h_mo_density : σ 26 = .inl (cI, 8, .inl (zA mo_density))) (h_mo_longest : σ 27 = .inl (cI, 8, .inl (zA mo_longest))) (h_mo_shift : σ 28 = .inl (cI, 8, .inl (zA mo_shift))) (h_mo_pull : σ 29 = .inl (cI, 8, .inl (zA mo_pull))) (h_mo_hasUnderlay : σ 30 = .inl (cZ, 8, .inl (zA mo_hasUnderlay))) (h_mo_pointX : σ 31 = .inl (cI, 4096, .inl (zA mo_pointX))) (h_mo_pointY : σ 32 = .inl (cI, 4096, .inl (zA mo_pointY))) (h_mo_crossing : σ 33 = .inl (cI, 8, .inl (zA mo_crossing))) (hbg : ∀ i : Nat, i ≠ 19 → i ≠ 31 → i ≠ 32 → i ≠ 33 → σ i = σ0 i) (ls : Array Slot) (hl : lv_has ls 2 [(0, .ref (ad 19)), (1, .int (zI x1))]), f_X7_finds_56 mo_isColumn mo_corners mo_cornerX mo_cornerY mo_density mo_longest mo_shift mo_pull mo_hasUnderlay mo_pointX mo_pointY mo_points mo_crossing mo_crossings mo_rowY x1 = some (R_mo_pointX, R_mo_pointY, R_mo_points, R_mo_crossing, R_mo_crossings, R_mo_rowY) → W p l e rmX7_finds s m args below meth c H locs 0 0 Q (F0 m 56 ls []) := by
    intro mo_pointX mo_pointY mo_points mo_crossing mo_crossings mo_rowY x1 σ H locs hH h_mo h_mo_isColumn h_mo_corners h_mo_cornerX h_mo_cornerY h_mo_density h_mo_longest h_mo_shift h_mo_pull h_mo_hasUnderlay h_mo_pointX h_mo_pointY h_mo_crossing hbg ls hl hf
    unfold f_X7_finds_56 at hf
    refine lv_aload_n hx hb dX7_finds_56 rfl (lv_at hl 0 rfl) ?_
    refine lv_iload_n hx hb dX7_finds_57 rfl (lv_at hl 1 rfl) ?_
    obtain ⟨a1, a2, u3, a4, u5, u6, k7, hf⟩ := zb6_some hf
    refine zcVv (C := RX7) (As := [.int (zI x1)]) (rest := []) hx hb hml hown hts hl.1 hK hH hA (c_X7_rows hI hN  h_mo h_mo_corners h_mo_cornerX h_mo_cornerY h_mo_density h_mo_longest h_mo_shift h_mo_pull h_mo_pointX h_mo_pointY h_mo_crossing k7) zk_t5_79 zk_t5_81 zk_s3_6 zk_t1_6 zk_t5_82 hd_X7_rows rfl ⟨rfl, rfl, Nat.le_of_ble_eq_true rfl, Nat.le_of_ble_eq_true rfl⟩ ⟨Nat.zero_le _, Nat.zero_le _⟩ hk_mo h_mo rfl rfl rfl (Nat.le_of_ble_eq_true rfl) dX7_finds_58 (fun σ8 Hσ8 lσ8 hp hH => ?_)
    obtain ⟨h_mo, h_mo_pointX, h_mo_pointY, h_mo_crossing, hn⟩ := hp
    have h_mo_isColumn := (hn 22 (by decide) (by decide) (by decide) (by decide)).trans h_mo_isColumn
    have h_mo_corners := (hn 23 (by decide) (by decide) (by decide) (by decide)).trans h_mo_corners
    have h_mo_cornerX := (hn 24 (by decide) (by decide) (by decide) (by decide)).trans h_mo_cornerX
    have h_mo_cornerY := (hn 25 (by decide) (by decide) (by decide) (by decide)).trans h_mo_cornerY
    have h_mo_density := (hn 26 (by decide) (by decide) (by decide) (by decide)).trans h_mo_density
    have h_mo_longest := (hn 27 (by decide) (by decide) (by decide) (by decide)).trans h_mo_longest
    have h_mo_shift := (hn 28 (by decide) (by decide) (by decide) (by decide)).trans h_mo_shift
    have h_mo_pull := (hn 29 (by decide) (by decide) (by decide) (by decide)).trans h_mo_pull
    have h_mo_hasUnderlay := (hn 30 (by decide) (by decide) (by decide) (by decide)).trans h_mo_hasUnderlay
    have hbg : ∀ i : Nat, i ≠ 19 → i ≠ 31 → i ≠ 32 → i ≠ 33 → σ8 i = σ0 i := fun i a0 a1 a2 a3 => (hn i a0 a1 a2 a3).trans (hbg i a0 a1 a2 a3)
    cases hf
    exact zretv hx hb hr hlocks hQ hH ⟨h_mo, h_mo_pointX, h_mo_pointY, h_mo_crossing, hbg⟩ dX7_finds_61
  unfold f_X7_finds at hf
  refine lv_aload_n hx hb dX7_finds_0 rfl (lv_at hl 0 rfl) ?_
  refine lv_iconst (v := zI 0) hx hb dX7_finds_1 (by decide +kernel) ?_
  refine zput hx hb inlX7 tyX7 tyX7_ok nmX7 rfl 15 rfl zk_t4_128 rfl hts hown hK hH hk_mo h_mo rfl rfl rfl dX7_finds_2 (fun σ9 Hσ9 lσ9 h_mo hn hH => ?_)
  have h_mo : σ9 19 = oC_mo ad mo_fields mo_bound 0 mo_crossings mo_isKnown mo_commands mo_needleX mo_needleY mo_hasFile mo_format mo_length mo_heads mo_late mo_ran mo_program mo_thrown mo_rowY mo_stitches := h_mo
  have h_mo_isColumn := (hn 22 (by decide)).trans h_mo_isColumn
  have h_mo_corners := (hn 23 (by decide)).trans h_mo_corners
  have h_mo_cornerX := (hn 24 (by decide)).trans h_mo_cornerX
  have h_mo_cornerY := (hn 25 (by decide)).trans h_mo_cornerY
  have h_mo_density := (hn 26 (by decide)).trans h_mo_density
  have h_mo_longest := (hn 27 (by decide)).trans h_mo_longest
  have h_mo_shift := (hn 28 (by decide)).trans h_mo_shift
  have h_mo_pull := (hn 29 (by decide)).trans h_mo_pull
  have h_mo_hasUnderlay := (hn 30 (by decide)).trans h_mo_hasUnderlay
  have h_mo_pointX := (hn 31 (by decide)).trans h_mo_pointX
  have h_mo_pointY := (hn 32 (by decide)).trans h_mo_pointY
  have h_mo_crossing := (hn 33 (by decide)).trans h_mo_crossing
  have hbg : ∀ i : Nat, i ≠ 19 → i ≠ 31 → i ≠ 32 → i ≠ 33 → σ9 i = σ0 i := fun i a0 a1 a2 a3 => (hn i a0).trans (hbg i a0 a1 a2 a3)
  refine lv_aload_n hx hb dX7_finds_5 rfl (lv_at hl 0 rfl) ?_
  refine zget hx hb inlX7 rfl 3 rfl zk_t4_116 hts hown hK hH hk_mo h_mo rfl dX7_finds_6 ?_
  refine lv_iload_n hx hb dX7_finds_9 rfl (lv_at hl 1 rfl) ?_
  obtain ⟨k10, hf⟩ := zck_some hf
  refine zzald hx hb hK hH hk_mo_isColumn 1 h_mo_isColumn rfl k10 rfl dX7_finds_10 ?_
  obtain ⟨k11, hf⟩ := zck_some hf
  refine lz_if_eq (tgt := 32) hx hb k11 dX7_finds_11 (by decide) (fun c12 => ?_) (fun c12 => ?_)
  · replace hf := (if_pos c12).symm.trans hf
    refine lv_aload_n hx hb dX7_finds_32 rfl (lv_at hl 0 rfl) ?_
    refine zget hx hb inlX7 rfl 4 rfl zk_t4_117 hts hown hK hH hk_mo h_mo rfl dX7_finds_33 ?_
    refine lv_iload_n hx hb dX7_finds_36 rfl (lv_at hl 1 rfl) ?_
    obtain ⟨k13, hf⟩ := zck_some hf
    refine ziald hx hb hK hH hk_mo_corners 0 h_mo_corners rfl k13 rfl dX7_finds_37 ?_
    refine lv_iconst (v := zI 2) hx hb dX7_finds_38 (by decide +kernel) ?_
    obtain ⟨k14, hf⟩ := zck_some hf
    refine lz_icmp_le (tgt := 61) hx hb ⟨k14, by decide⟩ dX7_finds_39 (by decide) (fun c15 => ?_) (fun c15 => ?_)
    · replace hf := (if_pos c15).symm.trans hf
      cases hf
      exact zretv hx hb hr hlocks hQ hH ⟨h_mo, h_mo_pointX, h_mo_pointY, h_mo_crossing, hbg⟩ dX7_finds_61
    · replace hf := (if_neg c15).symm.trans hf
      refine lv_aload_n hx hb dX7_finds_42 rfl (lv_at hl 0 rfl) ?_
      refine zget hx hb inlX7 rfl 11 rfl zk_t4_124 hts hown hK hH hk_mo h_mo rfl dX7_finds_43 ?_
      refine lv_iload_n hx hb dX7_finds_46 rfl (lv_at hl 1 rfl) ?_
      obtain ⟨k16, hf⟩ := zck_some hf
      refine zzald hx hb hK hH hk_mo_hasUnderlay 1 h_mo_hasUnderlay rfl k16 rfl dX7_finds_47 ?_
      obtain ⟨k17, hf⟩ := zck_some hf
      refine lz_if_eq (tgt := 56) hx hb k17 dX7_finds_48 (by decide) (fun c18 => ?_) (fun c18 => ?_)
      · replace hf := (if_pos c18).symm.trans hf
        exact J56 mo_pointX mo_pointY 0 mo_crossing mo_crossings mo_rowY p1 _ _ _ hH h_mo h_mo_isColumn h_mo_corners h_mo_cornerX h_mo_cornerY h_mo_density h_mo_longest h_mo_shift h_mo_pull h_mo_hasUnderlay h_mo_pointX h_mo_pointY h_mo_crossing hbg _ (lv_sub hl [0, 1] rfl) hf
      · replace hf := (if_neg c18).symm.trans hf
        refine lv_aload_n hx hb dX7_finds_51 rfl (lv_at hl 0 rfl) ?_
        refine lv_iload_n hx hb dX7_finds_52 rfl (lv_at hl 1 rfl) ?_
        obtain ⟨a19, a20, u21, k22, hf⟩ := zb3_some hf
        refine zcVv (C := RX7) (As := [.int (zI p1)]) (rest := []) hx hb hml hown hts hl.1 hK hH hA (c_X7_underlays hI hN  h_mo h_mo_corners h_mo_cornerX h_mo_cornerY h_mo_longest h_mo_pointX h_mo_pointY k22) zk_t5_72 zk_t5_74 zk_s3_5 zk_t1_6 zk_t5_75 hd_X7_underlays rfl ⟨rfl, rfl, Nat.le_of_ble_eq_true rfl, Nat.le_of_ble_eq_true rfl⟩ ⟨Nat.zero_le _, Nat.zero_le _⟩ hk_mo h_mo rfl rfl rfl (Nat.le_of_ble_eq_true rfl) dX7_finds_53 (fun σ23 Hσ23 lσ23 hp hH => ?_)
        obtain ⟨h_mo, h_mo_pointX, h_mo_pointY, hn⟩ := hp
        have h_mo_isColumn := (hn 22 (by decide) (by decide) (by decide)).trans h_mo_isColumn
        have h_mo_corners := (hn 23 (by decide) (by decide) (by decide)).trans h_mo_corners
        have h_mo_cornerX := (hn 24 (by decide) (by decide) (by decide)).trans h_mo_cornerX
        have h_mo_cornerY := (hn 25 (by decide) (by decide) (by decide)).trans h_mo_cornerY
        have h_mo_density := (hn 26 (by decide) (by decide) (by decide)).trans h_mo_density
        have h_mo_longest := (hn 27 (by decide) (by decide) (by decide)).trans h_mo_longest
        have h_mo_shift := (hn 28 (by decide) (by decide) (by decide)).trans h_mo_shift
        have h_mo_pull := (hn 29 (by decide) (by decide) (by decide)).trans h_mo_pull
        have h_mo_hasUnderlay := (hn 30 (by decide) (by decide) (by decide)).trans h_mo_hasUnderlay
        have h_mo_crossing := (hn 33 (by decide) (by decide) (by decide)).trans h_mo_crossing
        have hbg : ∀ i : Nat, i ≠ 19 → i ≠ 31 → i ≠ 32 → i ≠ 33 → σ23 i = σ0 i := fun i a0 a1 a2 a3 => (hn i a0 a1 a2).trans (hbg i a0 a1 a2 a3)
        exact J56 a19 a20 u21 mo_crossing mo_crossings mo_rowY p1 _ _ _ hH h_mo h_mo_isColumn h_mo_corners h_mo_cornerX h_mo_cornerY h_mo_density h_mo_longest h_mo_shift h_mo_pull h_mo_hasUnderlay h_mo_pointX h_mo_pointY h_mo_crossing hbg _ (lv_sub hl [0, 1] rfl) hf
  · replace hf := (if_neg c12).symm.trans hf
    refine lv_aload_n hx hb dX7_finds_14 rfl (lv_at hl 0 rfl) ?_
    refine zget hx hb inlX7 rfl 4 rfl zk_t4_117 hts hown hK hH hk_mo h_mo rfl dX7_finds_15 ?_
    refine lv_iload_n hx hb dX7_finds_18 rfl (lv_at hl 1 rfl) ?_
    obtain ⟨k24, hf⟩ := zck_some hf
    refine ziald hx hb hK hH hk_mo_corners 0 h_mo_corners rfl k24 rfl dX7_finds_19 ?_
    refine lv_iconst (v := zI 4) hx hb dX7_finds_20 (by decide +kernel) ?_
    obtain ⟨k25, hf⟩ := zck_some hf
    refine lz_icmp_ne (tgt := 61) hx hb ⟨k25, by decide⟩ dX7_finds_21 (by decide) (fun c26 => ?_) (fun c26 => ?_)
    · replace hf := (if_neg c26).symm.trans hf
      cases hf
      exact zretv hx hb hr hlocks hQ hH ⟨h_mo, h_mo_pointX, h_mo_pointY, h_mo_crossing, hbg⟩ dX7_finds_61
    · replace hf := (if_pos c26).symm.trans hf
      refine lv_aload_n hx hb dX7_finds_24 rfl (lv_at hl 0 rfl) ?_
      refine lv_iload_n hx hb dX7_finds_25 rfl (lv_at hl 1 rfl) ?_
      obtain ⟨a27, a28, u29, k30, hf⟩ := zb3_some hf
      refine zcVv (C := RX7) (As := [.int (zI p1)]) (rest := []) hx hb hml hown hts hl.1 hK hH hA (c_X7_column hI hN  h_mo h_mo_cornerX h_mo_cornerY h_mo_density h_mo_pointX h_mo_pointY k30) zk_t5_55 zk_t5_57 zk_s3_3 zk_t1_6 zk_t5_58 hd_X7_column rfl ⟨rfl, rfl, Nat.le_of_ble_eq_true rfl, Nat.le_of_ble_eq_true rfl⟩ ⟨Nat.zero_le _, Nat.zero_le _⟩ hk_mo h_mo rfl rfl rfl (Nat.le_of_ble_eq_true rfl) dX7_finds_26 (fun σ31 Hσ31 lσ31 hp hH => ?_)
      obtain ⟨h_mo, h_mo_pointX, h_mo_pointY, hn⟩ := hp
      have h_mo_isColumn := (hn 22 (by decide) (by decide) (by decide)).trans h_mo_isColumn
      have h_mo_corners := (hn 23 (by decide) (by decide) (by decide)).trans h_mo_corners
      have h_mo_cornerX := (hn 24 (by decide) (by decide) (by decide)).trans h_mo_cornerX
      have h_mo_cornerY := (hn 25 (by decide) (by decide) (by decide)).trans h_mo_cornerY
      have h_mo_density := (hn 26 (by decide) (by decide) (by decide)).trans h_mo_density
      have h_mo_longest := (hn 27 (by decide) (by decide) (by decide)).trans h_mo_longest
      have h_mo_shift := (hn 28 (by decide) (by decide) (by decide)).trans h_mo_shift
      have h_mo_pull := (hn 29 (by decide) (by decide) (by decide)).trans h_mo_pull
      have h_mo_hasUnderlay := (hn 30 (by decide) (by decide) (by decide)).trans h_mo_hasUnderlay
      have h_mo_crossing := (hn 33 (by decide) (by decide) (by decide)).trans h_mo_crossing
      have hbg : ∀ i : Nat, i ≠ 19 → i ≠ 31 → i ≠ 32 → i ≠ 33 → σ31 i = σ0 i := fun i a0 a1 a2 a3 => (hn i a0 a1 a2).trans (hbg i a0 a1 a2 a3)
      refine lv_goto (tgt := 61) hx hb dX7_finds_29 (by decide) ?_
      cases hf
      exact zretv hx hb hr hlocks hQ hH ⟨h_mo, h_mo_pointX, h_mo_pointY, h_mo_crossing, hbg⟩ dX7_finds_61
abbrev rmX7_command : Room := { frames := 0, cells := 0, slots := 0, locals := 0 }
theorem hd_X7_command : yX7_command.cls = RX7 ∧ yX7_command.cls ≠ "java/lang/invoke/MethodHandle" ∧ yX7_command.cls ≠ "java/lang/invoke/VarHandle" ∧ (parseMethodDescriptor yX7_command.desc).map (fun d => d.parameters.length) = some 4 := by decide +kernel
set_option maxHeartbeats 4000000 in
set_option maxRecDepth 100000 in
theorem c_X7_command {l : Launch} {D : va_G} {cI cZ cF cL cD : ClassId} {ad : Nat → Nat} {N : Nat} (hI : ∀ i j, i < N → j < N → ad i = ad j → i = j) (hN : 46 ≤ N) {σ0 : Nat → va_E} {sz : Nat} {mo_fields : Int} {mo_bound : Int} {mo_points : Int} {mo_crossings : Int} {mo_isKnown : Int} {mo_commands : Int} {mo_kind : Int → Int} {mo_byX : Int → Int} {mo_byY : Int → Int} {mo_fieldOf : Int → Int} {mo_needleX : Int} {mo_needleY : Int} {mo_hasFile : Int} {mo_format : Int} {mo_length : Int} {mo_heads : Int} {mo_late : Int} {mo_ran : Int} {mo_program : Int} {mo_thrown : Int} {mo_rowY : Int} {mo_stitches : Int} {p1 : Int} {p2 : Int} {p3 : Int} {p4 : Int} {R_mo_commands : Int} {R_mo_kind : Int → Int} {R_mo_byX : Int → Int} {R_mo_byY : Int → Int} {R_mo_fieldOf : Int → Int} {R_mo_needleX : Int} {R_mo_needleY : Int} (h_mo : σ0 19 = oC_mo ad mo_fields mo_bound mo_points mo_crossings mo_isKnown mo_commands mo_needleX mo_needleY mo_hasFile mo_format mo_length mo_heads mo_late mo_ran mo_program mo_thrown mo_rowY mo_stitches) (h_mo_kind : σ0 34 = .inl (cI, 20000, .inl (zA mo_kind))) (h_mo_byX : σ0 35 = .inl (cI, 20000, .inl (zA mo_byX))) (h_mo_byY : σ0 36 = .inl (cI, 20000, .inl (zA mo_byY))) (h_mo_fieldOf : σ0 37 = .inl (cI, 20000, .inl (zA mo_fieldOf))) (hf : f_X7_command mo_commands mo_kind mo_byX mo_byY mo_fieldOf mo_needleX mo_needleY p1 p2 p3 p4 = some (R_mo_commands, R_mo_kind, R_mo_byX, R_mo_byY, R_mo_fieldOf, R_mo_needleX, R_mo_needleY)) :
    Met l yX7_command (Cond.code yX7_command cX7_command 5 none :: wsL_law) rmX7_command (zPre D ad N (zT cI cZ cF cL cD) σ0 sz [.ref (ad 19), .int (zI p1), .int (zI p2), .int (zI p3), .int (zI p4)]) (zQv D ad N sz (fun σ' => σ' 19 = oC_mo ad mo_fields mo_bound mo_points mo_crossings mo_isKnown R_mo_commands R_mo_needleX R_mo_needleY mo_hasFile mo_format mo_length mo_heads mo_late mo_ran mo_program mo_thrown mo_rowY mo_stitches ∧ σ' 34 = .inl (cI, 20000, .inl (zA R_mo_kind)) ∧ σ' 35 = .inl (cI, 20000, .inl (zA R_mo_byX)) ∧ σ' 36 = .inl (cI, 20000, .inl (zA R_mo_byY)) ∧ σ' 37 = .inl (cI, 20000, .inl (zA R_mo_fieldOf)) ∧ ∀ i : Nat, i ≠ 19 → i ≠ 34 → i ≠ 35 → i ≠ 36 → i ≠ 37 → σ' i = σ0 i)) 0 0 (zFr ad N sz) := by
  refine zMet hI (plainFor_of_name (by decide)) (Nat.le_of_ble_eq_true rfl) ⟨rfl, rfl⟩ ?_
  intro p e s m args below meth c Q hx hb hr hlocks hml hown hts hK hsz hQ hH hA ls hl
  subst hsz
  have hk_mo : 19 < N := by omega
  have hk_mo_kind : 34 < N := by omega
  have hk_mo_byX : 35 < N := by omega
  have hk_mo_byY : 36 < N := by omega
  have hk_mo_fieldOf : 37 < N := by omega
  have hl : lv_has ls 5 [(0, .ref (ad 19)), (1, .int (zI p1)), (2, .int (zI p2)), (3, .int (zI p3)), (4, .int (zI p4))] := hl
  have hbg : ∀ i : Nat, i ≠ 19 → i ≠ 34 → i ≠ 35 → i ≠ 36 → i ≠ 37 → σ0 i = σ0 i := fun _ _ _ _ _ _ => rfl
  unfold f_X7_command at hf
  refine lv_aload_n hx hb dX7_command_0 rfl (lv_at hl 0 rfl) ?_
  refine zget hx hb inlX7 rfl 20 rfl zk_t4_133 hts hown hK hH hk_mo h_mo rfl dX7_command_1 ?_
  refine lv_aload_n hx hb dX7_command_4 rfl (lv_at hl 0 rfl) ?_
  refine zget hx hb inlX7 rfl 19 rfl zk_t4_132 hts hown hK hH hk_mo h_mo rfl dX7_command_5 ?_
  refine lv_iload_n hx hb dX7_command_8 rfl (lv_at hl 1 rfl) ?_
  obtain ⟨k1, hf⟩ := zck_some hf
  obtain ⟨a3, ea3, hf⟩ := zlt_some hf
  refine ziast hx hb hK hH hk_mo_kind 0 h_mo_kind rfl k1 rfl dX7_command_9 (fun σ2 Hσ2 lσ2 h_mo_kind hn hH => ?_)
  rw [← ea3] at h_mo_kind
  have h_mo := (hn 19 (by decide)).trans h_mo
  have h_mo_byX := (hn 35 (by decide)).trans h_mo_byX
  have h_mo_byY := (hn 36 (by decide)).trans h_mo_byY
  have h_mo_fieldOf := (hn 37 (by decide)).trans h_mo_fieldOf
  have hbg : ∀ i : Nat, i ≠ 19 → i ≠ 34 → i ≠ 35 → i ≠ 36 → i ≠ 37 → σ2 i = σ0 i := fun i a0 a1 a2 a3 a4 => (hn i a1).trans (hbg i a0 a1 a2 a3 a4)
  refine lv_aload_n hx hb dX7_command_10 rfl (lv_at hl 0 rfl) ?_
  refine zget hx hb inlX7 rfl 21 rfl zk_t4_134 hts hown hK hH hk_mo h_mo rfl dX7_command_11 ?_
  refine lv_aload_n hx hb dX7_command_14 rfl (lv_at hl 0 rfl) ?_
  refine zget hx hb inlX7 rfl 19 rfl zk_t4_132 hts hown hK hH hk_mo h_mo rfl dX7_command_15 ?_
  refine lv_iload_n hx hb dX7_command_18 rfl (lv_at hl 2 rfl) ?_
  obtain ⟨k4, hf⟩ := zck_some hf
  obtain ⟨a6, ea6, hf⟩ := zlt_some hf
  refine ziast hx hb hK hH hk_mo_byX 0 h_mo_byX rfl k4 rfl dX7_command_19 (fun σ5 Hσ5 lσ5 h_mo_byX hn hH => ?_)
  rw [← ea6] at h_mo_byX
  have h_mo := (hn 19 (by decide)).trans h_mo
  have h_mo_kind := (hn 34 (by decide)).trans h_mo_kind
  have h_mo_byY := (hn 36 (by decide)).trans h_mo_byY
  have h_mo_fieldOf := (hn 37 (by decide)).trans h_mo_fieldOf
  have hbg : ∀ i : Nat, i ≠ 19 → i ≠ 34 → i ≠ 35 → i ≠ 36 → i ≠ 37 → σ5 i = σ0 i := fun i a0 a1 a2 a3 a4 => (hn i a2).trans (hbg i a0 a1 a2 a3 a4)
  refine lv_aload_n hx hb dX7_command_20 rfl (lv_at hl 0 rfl) ?_
  refine zget hx hb inlX7 rfl 22 rfl zk_t4_135 hts hown hK hH hk_mo h_mo rfl dX7_command_21 ?_
  refine lv_aload_n hx hb dX7_command_24 rfl (lv_at hl 0 rfl) ?_
  refine zget hx hb inlX7 rfl 19 rfl zk_t4_132 hts hown hK hH hk_mo h_mo rfl dX7_command_25 ?_
  refine lv_iload_n hx hb dX7_command_28 rfl (lv_at hl 3 rfl) ?_
  obtain ⟨k7, hf⟩ := zck_some hf
  obtain ⟨a9, ea9, hf⟩ := zlt_some hf
  refine ziast hx hb hK hH hk_mo_byY 0 h_mo_byY rfl k7 rfl dX7_command_29 (fun σ8 Hσ8 lσ8 h_mo_byY hn hH => ?_)
  rw [← ea9] at h_mo_byY
  have h_mo := (hn 19 (by decide)).trans h_mo
  have h_mo_kind := (hn 34 (by decide)).trans h_mo_kind
  have h_mo_byX := (hn 35 (by decide)).trans h_mo_byX
  have h_mo_fieldOf := (hn 37 (by decide)).trans h_mo_fieldOf
  have hbg : ∀ i : Nat, i ≠ 19 → i ≠ 34 → i ≠ 35 → i ≠ 36 → i ≠ 37 → σ8 i = σ0 i := fun i a0 a1 a2 a3 a4 => (hn i a3).trans (hbg i a0 a1 a2 a3 a4)
  refine lv_aload_n hx hb dX7_command_30 rfl (lv_at hl 0 rfl) ?_
  refine zget hx hb inlX7 rfl 23 rfl zk_t4_136 hts hown hK hH hk_mo h_mo rfl dX7_command_31 ?_
  refine lv_aload_n hx hb dX7_command_34 rfl (lv_at hl 0 rfl) ?_
  refine zget hx hb inlX7 rfl 19 rfl zk_t4_132 hts hown hK hH hk_mo h_mo rfl dX7_command_35 ?_
  refine lv_iload hx hb dX7_command_38 (lv_at hl 4 rfl) ?_
  obtain ⟨k10, hf⟩ := zck_some hf
  obtain ⟨a12, ea12, hf⟩ := zlt_some hf
  refine ziast hx hb hK hH hk_mo_fieldOf 0 h_mo_fieldOf rfl k10 rfl dX7_command_40 (fun σ11 Hσ11 lσ11 h_mo_fieldOf hn hH => ?_)
  rw [← ea12] at h_mo_fieldOf
  have h_mo := (hn 19 (by decide)).trans h_mo
  have h_mo_kind := (hn 34 (by decide)).trans h_mo_kind
  have h_mo_byX := (hn 35 (by decide)).trans h_mo_byX
  have h_mo_byY := (hn 36 (by decide)).trans h_mo_byY
  have hbg : ∀ i : Nat, i ≠ 19 → i ≠ 34 → i ≠ 35 → i ≠ 36 → i ≠ 37 → σ11 i = σ0 i := fun i a0 a1 a2 a3 a4 => (hn i a4).trans (hbg i a0 a1 a2 a3 a4)
  refine lv_aload_n hx hb dX7_command_41 rfl (lv_at hl 0 rfl) ?_
  refine lv_dup hx hb dX7_command_42 rfl ?_
  refine zget hx hb inlX7 rfl 19 rfl zk_t4_132 hts hown hK hH hk_mo h_mo rfl dX7_command_43 ?_
  refine lv_iconst (v := zI 1) hx hb dX7_command_46 (by decide +kernel) ?_
  refine lz_iadd hx hb dX7_command_47 ?_
  obtain ⟨v13, ev13, hf⟩ := zlt_some hf
  refine lz_nm ev13 ?_
  refine zput hx hb inlX7 tyX7 tyX7_ok nmX7 rfl 19 rfl zk_t4_132 rfl hts hown hK hH hk_mo h_mo rfl rfl rfl dX7_command_48 (fun σ14 Hσ14 lσ14 h_mo hn hH => ?_)
  have h_mo : σ14 19 = oC_mo ad mo_fields mo_bound mo_points mo_crossings mo_isKnown v13 mo_needleX mo_needleY mo_hasFile mo_format mo_length mo_heads mo_late mo_ran mo_program mo_thrown mo_rowY mo_stitches := h_mo
  have h_mo_kind := (hn 34 (by decide)).trans h_mo_kind
  have h_mo_byX := (hn 35 (by decide)).trans h_mo_byX
  have h_mo_byY := (hn 36 (by decide)).trans h_mo_byY
  have h_mo_fieldOf := (hn 37 (by decide)).trans h_mo_fieldOf
  have hbg : ∀ i : Nat, i ≠ 19 → i ≠ 34 → i ≠ 35 → i ≠ 36 → i ≠ 37 → σ14 i = σ0 i := fun i a0 a1 a2 a3 a4 => (hn i a0).trans (hbg i a0 a1 a2 a3 a4)
  refine lv_aload_n hx hb dX7_command_51 rfl (lv_at hl 0 rfl) ?_
  refine lv_dup hx hb dX7_command_52 rfl ?_
  refine zget hx hb inlX7 rfl 24 rfl zk_t4_137 hts hown hK hH hk_mo h_mo rfl dX7_command_53 ?_
  refine lv_iload_n hx hb dX7_command_56 rfl (lv_at hl 2 rfl) ?_
  refine lz_iadd hx hb dX7_command_57 ?_
  obtain ⟨v15, ev15, hf⟩ := zlt_some hf
  refine lz_nm ev15 ?_
  refine zput hx hb inlX7 tyX7 tyX7_ok nmX7 rfl 24 rfl zk_t4_137 rfl hts hown hK hH hk_mo h_mo rfl rfl rfl dX7_command_58 (fun σ16 Hσ16 lσ16 h_mo hn hH => ?_)
  have h_mo : σ16 19 = oC_mo ad mo_fields mo_bound mo_points mo_crossings mo_isKnown v13 v15 mo_needleY mo_hasFile mo_format mo_length mo_heads mo_late mo_ran mo_program mo_thrown mo_rowY mo_stitches := h_mo
  have h_mo_kind := (hn 34 (by decide)).trans h_mo_kind
  have h_mo_byX := (hn 35 (by decide)).trans h_mo_byX
  have h_mo_byY := (hn 36 (by decide)).trans h_mo_byY
  have h_mo_fieldOf := (hn 37 (by decide)).trans h_mo_fieldOf
  have hbg : ∀ i : Nat, i ≠ 19 → i ≠ 34 → i ≠ 35 → i ≠ 36 → i ≠ 37 → σ16 i = σ0 i := fun i a0 a1 a2 a3 a4 => (hn i a0).trans (hbg i a0 a1 a2 a3 a4)
  refine lv_aload_n hx hb dX7_command_61 rfl (lv_at hl 0 rfl) ?_
  refine lv_dup hx hb dX7_command_62 rfl ?_
  refine zget hx hb inlX7 rfl 25 rfl zk_t4_138 hts hown hK hH hk_mo h_mo rfl dX7_command_63 ?_
  refine lv_iload_n hx hb dX7_command_66 rfl (lv_at hl 3 rfl) ?_
  refine lz_iadd hx hb dX7_command_67 ?_
  obtain ⟨v17, ev17, hf⟩ := zlt_some hf
  refine lz_nm ev17 ?_
  refine zput hx hb inlX7 tyX7 tyX7_ok nmX7 rfl 25 rfl zk_t4_138 rfl hts hown hK hH hk_mo h_mo rfl rfl rfl dX7_command_68 (fun σ18 Hσ18 lσ18 h_mo hn hH => ?_)
  have h_mo : σ18 19 = oC_mo ad mo_fields mo_bound mo_points mo_crossings mo_isKnown v13 v15 v17 mo_hasFile mo_format mo_length mo_heads mo_late mo_ran mo_program mo_thrown mo_rowY mo_stitches := h_mo
  have h_mo_kind := (hn 34 (by decide)).trans h_mo_kind
  have h_mo_byX := (hn 35 (by decide)).trans h_mo_byX
  have h_mo_byY := (hn 36 (by decide)).trans h_mo_byY
  have h_mo_fieldOf := (hn 37 (by decide)).trans h_mo_fieldOf
  have hbg : ∀ i : Nat, i ≠ 19 → i ≠ 34 → i ≠ 35 → i ≠ 36 → i ≠ 37 → σ18 i = σ0 i := fun i a0 a1 a2 a3 a4 => (hn i a0).trans (hbg i a0 a1 a2 a3 a4)
  cases hf
  exact zretv hx hb hr hlocks hQ hH ⟨h_mo, h_mo_kind, h_mo_byX, h_mo_byY, h_mo_fieldOf, hbg⟩ dX7_command_71
abbrev rmX7_squareTo : Room := { frames := 0, cells := 0, slots := 0, locals := 0 }
theorem hd_X7_squareTo : yX7_squareTo.cls = RX7 ∧ yX7_squareTo.cls ≠ "java/lang/invoke/MethodHandle" ∧ yX7_squareTo.cls ≠ "java/lang/invoke/VarHandle" ∧ (parseMethodDescriptor yX7_squareTo.desc).map (fun d => d.parameters.length) = some 2 := by decide +kernel
set_option maxHeartbeats 4000000 in
set_option maxRecDepth 100000 in
theorem c_X7_squareTo {l : Launch} {D : va_G} {cI cZ cF cL cD : ClassId} {ad : Nat → Nat} {N : Nat} (hI : ∀ i j, i < N → j < N → ad i = ad j → i = j) (hN : 46 ≤ N) {σ0 : Nat → va_E} {sz : Nat} {mo_fields : Int} {mo_bound : Int} {mo_points : Int} {mo_crossings : Int} {mo_isKnown : Int} {mo_commands : Int} {mo_needleX : Int} {mo_needleY : Int} {mo_hasFile : Int} {mo_format : Int} {mo_length : Int} {mo_heads : Int} {mo_late : Int} {mo_ran : Int} {mo_program : Int} {mo_thrown : Int} {mo_rowY : Int} {mo_stitches : Int} {p1 : Int} {p2 : Int} {R0 : Int} (h_mo : σ0 19 = oC_mo ad mo_fields mo_bound mo_points mo_crossings mo_isKnown mo_commands mo_needleX mo_needleY mo_hasFile mo_format mo_length mo_heads mo_late mo_ran mo_program mo_thrown mo_rowY mo_stitches) (hf : f_X7_squareTo mo_needleX mo_needleY p1 p2 = some R0) :
    Met l yX7_squareTo (Cond.code yX7_squareTo cX7_squareTo 3 (some .int) :: wsL_law) rmX7_squareTo (zPre D ad N (zT cI cZ cF cL cD) σ0 sz [.ref (ad 19), .int (zI p1), .int (zI p2)]) (zQi D ad N sz (fun r σ' => r = zI R0 ∧ σ' = σ0)) 0 0 (zFr ad N sz) := by
  refine zMet hI (plainFor_of_name (by decide)) (Nat.le_of_ble_eq_true rfl) ⟨rfl, rfl⟩ ?_
  intro p e s m args below meth c Q hx hb hr hlocks hml hown hts hK hsz hQ hH hA ls hl
  subst hsz
  have hk_mo : 19 < N := by omega
  have hl : lv_has ls 3 [(0, .ref (ad 19)), (1, .int (zI p1)), (2, .int (zI p2))] := hl
  have hbg : σ0 = σ0 := rfl
  unfold f_X7_squareTo at hf
  refine lv_iload_n hx hb dX7_squareTo_0 rfl (lv_at hl 1 rfl) ?_
  refine lv_aload_n hx hb dX7_squareTo_1 rfl (lv_at hl 0 rfl) ?_
  refine zget hx hb inlX7 rfl 24 rfl zk_t4_137 hts hown hK hH hk_mo h_mo rfl dX7_squareTo_2 ?_
  refine lz_isub hx hb dX7_squareTo_5 ?_
  refine lv_iload_n hx hb dX7_squareTo_6 rfl (lv_at hl 1 rfl) ?_
  refine lv_aload_n hx hb dX7_squareTo_7 rfl (lv_at hl 0 rfl) ?_
  refine zget hx hb inlX7 rfl 24 rfl zk_t4_137 hts hown hK hH hk_mo h_mo rfl dX7_squareTo_8 ?_
  refine lz_isub hx hb dX7_squareTo_11 ?_
  refine lz_imul hx hb dX7_squareTo_12 ?_
  refine lv_iload_n hx hb dX7_squareTo_13 rfl (lv_at hl 2 rfl) ?_
  refine lv_aload_n hx hb dX7_squareTo_14 rfl (lv_at hl 0 rfl) ?_
  refine zget hx hb inlX7 rfl 25 rfl zk_t4_138 hts hown hK hH hk_mo h_mo rfl dX7_squareTo_15 ?_
  refine lz_isub hx hb dX7_squareTo_18 ?_
  refine lv_iload_n hx hb dX7_squareTo_19 rfl (lv_at hl 2 rfl) ?_
  refine lv_aload_n hx hb dX7_squareTo_20 rfl (lv_at hl 0 rfl) ?_
  refine zget hx hb inlX7 rfl 25 rfl zk_t4_138 hts hown hK hH hk_mo h_mo rfl dX7_squareTo_21 ?_
  refine lz_isub hx hb dX7_squareTo_24 ?_
  refine lz_imul hx hb dX7_squareTo_25 ?_
  refine lz_iadd hx hb dX7_squareTo_26 ?_
  cases hf
  exact zreti hx hb hr hlocks hQ hH ⟨rfl, hbg⟩ dX7_squareTo_27
abbrev rmX7_nearest : Room := { frames := 4, cells := 0, slots := 0, locals := 99 }
theorem hd_X7_nearest : yX7_nearest.cls = RX7 ∧ yX7_nearest.cls ≠ "java/lang/invoke/MethodHandle" ∧ yX7_nearest.cls ≠ "java/lang/invoke/VarHandle" ∧ (parseMethodDescriptor yX7_nearest.desc).map (fun d => d.parameters.length) = some 2 := by decide +kernel
set_option maxHeartbeats 4000000 in
set_option maxRecDepth 100000 in
theorem c_X7_nearest {l : Launch} {D : va_G} {cI cZ cF cL cD : ClassId} {ad : Nat → Nat} {N : Nat} (hI : ∀ i j, i < N → j < N → ad i = ad j → i = j) (hN : 46 ≤ N) {σ0 : Nat → va_E} {sz : Nat} {mo_fields : Int} {mo_colour : Int → Int} {mo_layer : Int → Int} {mo_isColumn : Int → Int} {mo_corners : Int → Int} {mo_cornerX : Int → Int} {mo_cornerY : Int → Int} {mo_density : Int → Int} {mo_longest : Int → Int} {mo_shift : Int → Int} {mo_pull : Int → Int} {mo_hasUnderlay : Int → Int} {mo_bound : Int} {mo_pointX : Int → Int} {mo_pointY : Int → Int} {mo_points : Int} {mo_crossing : Int → Int} {mo_crossings : Int} {mo_isKnown : Int} {mo_commands : Int} {mo_needleX : Int} {mo_needleY : Int} {mo_isSewn : Int → Int} {mo_hasFile : Int} {mo_format : Int} {mo_length : Int} {mo_heads : Int} {mo_late : Int} {mo_ran : Int} {mo_program : Int} {mo_thrown : Int} {mo_rowY : Int} {mo_stitches : Int} {p1 : Int} {p2 : Int} {R0 : Int} {R_mo_pointX : Int → Int} {R_mo_pointY : Int → Int} {R_mo_points : Int} {R_mo_crossing : Int → Int} {R_mo_crossings : Int} {R_mo_rowY : Int} (h_mo : σ0 19 = oC_mo ad mo_fields mo_bound mo_points mo_crossings mo_isKnown mo_commands mo_needleX mo_needleY mo_hasFile mo_format mo_length mo_heads mo_late mo_ran mo_program mo_thrown mo_rowY mo_stitches) (h_mo_colour : σ0 20 = .inl (cI, 8, .inl (zA mo_colour))) (h_mo_layer : σ0 21 = .inl (cI, 8, .inl (zA mo_layer))) (h_mo_isColumn : σ0 22 = .inl (cZ, 8, .inl (zA mo_isColumn))) (h_mo_corners : σ0 23 = .inl (cI, 8, .inl (zA mo_corners))) (h_mo_cornerX : σ0 24 = .inl (cI, 64, .inl (zA mo_cornerX))) (h_mo_cornerY : σ0 25 = .inl (cI, 64, .inl (zA mo_cornerY))) (h_mo_density : σ0 26 = .inl (cI, 8, .inl (zA mo_density))) (h_mo_longest : σ0 27 = .inl (cI, 8, .inl (zA mo_longest))) (h_mo_shift : σ0 28 = .inl (cI, 8, .inl (zA mo_shift))) (h_mo_pull : σ0 29 = .inl (cI, 8, .inl (zA mo_pull))) (h_mo_hasUnderlay : σ0 30 = .inl (cZ, 8, .inl (zA mo_hasUnderlay))) (h_mo_pointX : σ0 31 = .inl (cI, 4096, .inl (zA mo_pointX))) (h_mo_pointY : σ0 32 = .inl (cI, 4096, .inl (zA mo_pointY))) (h_mo_crossing : σ0 33 = .inl (cI, 8, .inl (zA mo_crossing))) (h_mo_isSewn : σ0 38 = .inl (cZ, 8, .inl (zA mo_isSewn))) (hf : f_X7_nearest mo_fields mo_colour mo_layer mo_isColumn mo_corners mo_cornerX mo_cornerY mo_density mo_longest mo_shift mo_pull mo_hasUnderlay mo_pointX mo_pointY mo_points mo_crossing mo_crossings mo_needleX mo_needleY mo_isSewn mo_rowY p1 p2 = some (R0, R_mo_pointX, R_mo_pointY, R_mo_points, R_mo_crossing, R_mo_crossings, R_mo_rowY)) :
    Met l yX7_nearest (Cond.code yX7_nearest cX7_nearest 8 (some .int) :: wsL_law) rmX7_nearest (zPre D ad N (zT cI cZ cF cL cD) σ0 sz [.ref (ad 19), .int (zI p1), .int (zI p2)]) (zQi D ad N sz (fun r σ' => r = zI R0 ∧ σ' 19 = oC_mo ad mo_fields mo_bound R_mo_points R_mo_crossings mo_isKnown mo_commands mo_needleX mo_needleY mo_hasFile mo_format mo_length mo_heads mo_late mo_ran mo_program mo_thrown R_mo_rowY mo_stitches ∧ σ' 31 = .inl (cI, 4096, .inl (zA R_mo_pointX)) ∧ σ' 32 = .inl (cI, 4096, .inl (zA R_mo_pointY)) ∧ σ' 33 = .inl (cI, 8, .inl (zA R_mo_crossing)) ∧ ∀ i : Nat, i ≠ 19 → i ≠ 31 → i ≠ 32 → i ≠ 33 → σ' i = σ0 i)) 0 0 (zFr ad N sz) := by
  refine zMet hI (plainFor_of_name (by decide)) (Nat.le_of_ble_eq_true rfl) ⟨rfl, rfl⟩ ?_
  intro p e s m args below meth c Q hx hb hr hlocks hml hown hts hK hsz hQ hH hA ls hl
  subst hsz
  have hk_mo : 19 < N := by omega
  have hk_mo_colour : 20 < N := by omega
  have hk_mo_layer : 21 < N := by omega
  have hk_mo_isColumn : 22 < N := by omega
  have hk_mo_corners : 23 < N := by omega
  have hk_mo_cornerX : 24 < N := by omega
  have hk_mo_cornerY : 25 < N := by omega
  have hk_mo_density : 26 < N := by omega
  have hk_mo_longest : 27 < N := by omega
  have hk_mo_shift : 28 < N := by omega
  have hk_mo_pull : 29 < N := by omega
  have hk_mo_hasUnderlay : 30 < N := by omega
  have hk_mo_pointX : 31 < N := by omega
  have hk_mo_pointY : 32 < N := by omega
  have hk_mo_crossing : 33 < N := by omega
  have hk_mo_isSewn : 38 < N := by omega
  have hl : lv_has ls 8 [(0, .ref (ad 19)), (1, .int (zI p1)), (2, .int (zI p2))] := hl
  have hbg : ∀ i : Nat, i ≠ 19 → i ≠ 31 → i ≠ 32 → i ≠ 33 → σ0 i = σ0 i := fun _ _ _ _ _ => rfl
  have L8 : ∀ (x1 : Int) (x2 : Int)  (n : Nat) (x3 : Int) (x4 : Int) (x5 : Int) (mo_pointX : Int → Int) (mo_pointY : Int → Int) (mo_points : Int) (mo_crossing : Int → Int) (mo_crossings : Int) (mo_rowY : Int) (x3' : Int) (x4' : Int) (x5' : Int) (mo_pointX' : Int → Int) (mo_pointY' : Int → Int) (mo_points' : Int) (mo_crossing' : Int → Int) (mo_crossings' : Int) (mo_rowY' : Int), zlp (fun z => f_X7_nearest_L8 mo_fields mo_colour mo_layer mo_isColumn mo_corners mo_cornerX mo_cornerY mo_density mo_longest mo_shift mo_pull mo_hasUnderlay mo_needleX mo_needleY mo_isSewn x1 x2 z.1 z.2.1 z.2.2.1 z.2.2.2.1 z.2.2.2.2.1 z.2.2.2.2.2.1 z.2.2.2.2.2.2.1 z.2.2.2.2.2.2.2.1 z.2.2.2.2.2.2.2.2) n (x3, x4, x5, mo_pointX, mo_pointY, mo_points, mo_crossing, mo_crossings, mo_rowY) = some (x3', x4', x5', mo_pointX', mo_pointY', mo_points', mo_crossing', mo_crossings', mo_rowY') → ∀ (σ : Nat → va_E) (H : Heap) (locs : List Loc) (hH : zH D ad N (zFr ad N s.heap.size) s.heap σ H locs) (h_mo : σ 19 = oC_mo ad mo_fields mo_bound mo_points mo_crossings mo_isKnown mo_commands mo_needleX mo_needleY mo_hasFile mo_format mo_length mo_heads mo_late mo_ran mo_program mo_thrown mo_rowY mo_stitches) (h_mo_colour : σ 20 = .inl (cI, 8, .inl (zA mo_colour))) (h_mo_layer : σ 21 = .inl (cI, 8, .inl (zA mo_layer))) (h_mo_isColumn : σ 22 = .inl (cZ, 8, .inl (zA mo_isColumn))) (h_mo_corners : σ 23 = .inl (cI, 8, .inl (zA mo_corners))) (h_mo_cornerX : σ 24 = .inl (cI, 64, .inl (zA mo_cornerX))) (h_mo_cornerY : σ 25 = .inl (cI, 64, .inl (zA mo_cornerY))) (h_mo_density : σ 26 = .inl (cI, 8, .inl (zA mo_density))) (h_mo_longest : σ 27 = .inl (cI, 8, .inl (zA mo_longest))) (h_mo_shift : σ 28 = .inl (cI, 8, .inl (zA mo_shift))) (h_mo_pull : σ 29 = .inl (cI, 8, .inl (zA mo_pull))) (h_mo_hasUnderlay : σ 30 = .inl (cZ, 8, .inl (zA mo_hasUnderlay))) (h_mo_pointX : σ 31 = .inl (cI, 4096, .inl (zA mo_pointX))) (h_mo_pointY : σ 32 = .inl (cI, 4096, .inl (zA mo_pointY))) (h_mo_crossing : σ 33 = .inl (cI, 8, .inl (zA mo_crossing))) (h_mo_isSewn : σ 38 = .inl (cZ, 8, .inl (zA mo_isSewn))) (hbg : ∀ i : Nat, i ≠ 19 → i ≠ 31 → i ≠ 32 → i ≠ 33 → σ i = σ0 i) (ls : Array Slot) (hl : lv_has ls 8 [(0, .ref (ad 19)), (1, .int (zI x1)), (2, .int (zI x2)), (3, .int (zI x3)), (4, .int (zI x4)), (5, .int (zI x5))]), (∀ (σ : Nat → va_E) (H : Heap) (locs : List Loc) (hH : zH D ad N (zFr ad N s.heap.size) s.heap σ H locs) (h_mo : σ 19 = oC_mo ad mo_fields mo_bound (mo_points') (mo_crossings') mo_isKnown mo_commands mo_needleX mo_needleY mo_hasFile mo_format mo_length mo_heads mo_late mo_ran mo_program mo_thrown (mo_rowY') mo_stitches) (h_mo_colour : σ 20 = .inl (cI, 8, .inl (zA mo_colour))) (h_mo_layer : σ 21 = .inl (cI, 8, .inl (zA mo_layer))) (h_mo_isColumn : σ 22 = .inl (cZ, 8, .inl (zA mo_isColumn))) (h_mo_corners : σ 23 = .inl (cI, 8, .inl (zA mo_corners))) (h_mo_cornerX : σ 24 = .inl (cI, 64, .inl (zA mo_cornerX))) (h_mo_cornerY : σ 25 = .inl (cI, 64, .inl (zA mo_cornerY))) (h_mo_density : σ 26 = .inl (cI, 8, .inl (zA mo_density))) (h_mo_longest : σ 27 = .inl (cI, 8, .inl (zA mo_longest))) (h_mo_shift : σ 28 = .inl (cI, 8, .inl (zA mo_shift))) (h_mo_pull : σ 29 = .inl (cI, 8, .inl (zA mo_pull))) (h_mo_hasUnderlay : σ 30 = .inl (cZ, 8, .inl (zA mo_hasUnderlay))) (h_mo_pointX : σ 31 = .inl (cI, 4096, .inl (zA (mo_pointX')))) (h_mo_pointY : σ 32 = .inl (cI, 4096, .inl (zA (mo_pointY')))) (h_mo_crossing : σ 33 = .inl (cI, 8, .inl (zA (mo_crossing')))) (h_mo_isSewn : σ 38 = .inl (cZ, 8, .inl (zA mo_isSewn))) (hbg : ∀ i : Nat, i ≠ 19 → i ≠ 31 → i ≠ 32 → i ≠ 33 → σ i = σ0 i) (ls : Array Slot) (hl : lv_has ls 8 [(3, .int (zI (x3')))]), W p l e rmX7_nearest s m args below meth c H locs 0 0 Q (F0 m 136 ls [])) → W p l e rmX7_nearest s m args below meth c H locs 0 0 Q (F0 m 8 ls []) := by
    intro x1 x2 n
    induction n with
    | zero => intro x3 x4 x5 mo_pointX mo_pointY mo_points mo_crossing mo_crossings mo_rowY x3' x4' x5' mo_pointX' mo_pointY' mo_points' mo_crossing' mo_crossings' mo_rowY' hz; exact (zlp_0 hz).elim
    | succ n ih =>
      intro x3 x4 x5 mo_pointX mo_pointY mo_points mo_crossing mo_crossings mo_rowY x3' x4' x5' mo_pointX' mo_pointY' mo_points' mo_crossing' mo_crossings' mo_rowY' hz σ H locs hH h_mo h_mo_colour h_mo_layer h_mo_isColumn h_mo_corners h_mo_cornerX h_mo_cornerY h_mo_density h_mo_longest h_mo_shift h_mo_pull h_mo_hasUnderlay h_mo_pointX h_mo_pointY h_mo_crossing h_mo_isSewn hbg ls hl kx
      obtain ⟨nx, hf, hnx⟩ := zlp_some hz
      have hf : f_X7_nearest_L8 mo_fields mo_colour mo_layer mo_isColumn mo_corners mo_cornerX mo_cornerY mo_density mo_longest mo_shift mo_pull mo_hasUnderlay mo_needleX mo_needleY mo_isSewn x1 x2 x3 x4 x5 mo_pointX mo_pointY mo_points mo_crossing mo_crossings mo_rowY = some nx := hf
      have JL8_115 : ∀ (mo_pointX : Int → Int) (mo_pointY : Int → Int) (mo_points : Int) (mo_crossing : Int → Int) (mo_crossings : Int) (mo_rowY : Int) (x4 : Int) (x5 : Int) (x6 : Int) (x7 : Int) (s0 : Int) (σ : Nat → va_E) (H : Heap) (locs : List Loc) (hH : zH D ad N (zFr ad N s.heap.size) s.heap σ H locs) (h_mo : σ 19 = oC_mo ad mo_fields mo_bound mo_points mo_crossings mo_isKnown mo_commands mo_needleX mo_needleY mo_hasFile mo_format mo_length mo_heads mo_late mo_ran mo_program mo_thrown mo_rowY mo_stitches) (h_mo_colour : σ 20 = .inl (cI, 8, .inl (zA mo_colour))) (h_mo_layer : σ 21 = .inl (cI, 8, .inl (zA mo_layer))) (h_mo_isColumn : σ 22 = .inl (cZ, 8, .inl (zA mo_isColumn))) (h_mo_corners : σ 23 = .inl (cI, 8, .inl (zA mo_corners))) (h_mo_cornerX : σ 24 = .inl (cI, 64, .inl (zA mo_cornerX))) (h_mo_cornerY : σ 25 = .inl (cI, 64, .inl (zA mo_cornerY))) (h_mo_density : σ 26 = .inl (cI, 8, .inl (zA mo_density))) (h_mo_longest : σ 27 = .inl (cI, 8, .inl (zA mo_longest))) (h_mo_shift : σ 28 = .inl (cI, 8, .inl (zA mo_shift))) (h_mo_pull : σ 29 = .inl (cI, 8, .inl (zA mo_pull))) (h_mo_hasUnderlay : σ 30 = .inl (cZ, 8, .inl (zA mo_hasUnderlay))) (h_mo_pointX : σ 31 = .inl (cI, 4096, .inl (zA mo_pointX))) (h_mo_pointY : σ 32 = .inl (cI, 4096, .inl (zA mo_pointY))) (h_mo_crossing : σ 33 = .inl (cI, 8, .inl (zA mo_crossing))) (h_mo_isSewn : σ 38 = .inl (cZ, 8, .inl (zA mo_isSewn))) (hbg : ∀ i : Nat, i ≠ 19 → i ≠ 31 → i ≠ 32 → i ≠ 33 → σ i = σ0 i) (ls : Array Slot) (hl : lv_has ls 8 [(0, .ref (ad 19)), (1, .int (zI x1)), (2, .int (zI x2)), (4, .int (zI x4)), (5, .int (zI x5)), (6, .int (zI x6)), (7, .int (zI x7))]), f_X7_nearest_L8_115 mo_fields mo_colour mo_layer mo_isColumn mo_corners mo_cornerX mo_cornerY mo_density mo_longest mo_shift mo_pull mo_hasUnderlay mo_pointX mo_pointY mo_points mo_crossing mo_crossings mo_needleX mo_needleY mo_isSewn mo_rowY x1 x2 x4 x5 x6 x7 s0 = some nx → W p l e rmX7_nearest s m args below meth c H locs 0 0 Q (F0 m 115 ls [.int (zI s0)]) := by
        intro mo_pointX mo_pointY mo_points mo_crossing mo_crossings mo_rowY x4 x5 x6 x7 s0 σ H locs hH h_mo h_mo_colour h_mo_layer h_mo_isColumn h_mo_corners h_mo_cornerX h_mo_cornerY h_mo_density h_mo_longest h_mo_shift h_mo_pull h_mo_hasUnderlay h_mo_pointX h_mo_pointY h_mo_crossing h_mo_isSewn hbg ls hl hf
        unfold f_X7_nearest_L8_115 at hf
        refine lv_istore_n (lv' := [(3, .int (zI s0)), (0, .ref (ad 19)), (1, .int (zI x1)), (2, .int (zI x2)), (4, .int (zI x4)), (5, .int (zI x5)), (6, .int (zI x6)), (7, .int (zI x7))]) hx hb dX7_nearest_115 rfl hl (by decide) rfl (fun ls hl => ?_)
        refine lv_iload hx hb dX7_nearest_116 (lv_at hl 7 rfl) ?_
        obtain ⟨k1, hf⟩ := zck_some hf
        refine lz_if_eq (tgt := 126) hx hb k1 dX7_nearest_118 (by decide) (fun c2 => ?_) (fun c2 => ?_)
        · replace hf := (if_pos c2).symm.trans hf
          refine lv_iload hx hb dX7_nearest_126 (lv_at hl 4 rfl) ?_
          refine lv_istore (lv' := [(4, .int (zI x4)), (3, .int (zI s0)), (0, .ref (ad 19)), (1, .int (zI x1)), (2, .int (zI x2)), (5, .int (zI x5)), (6, .int (zI x6)), (7, .int (zI x7))]) hx hb dX7_nearest_128 hl (by decide) rfl (fun ls hl => ?_)
          refine lz_iinc (lv' := [(5, .int (zI (x5 + 1))), (4, .int (zI x4)), (3, .int (zI s0)), (0, .ref (ad 19)), (1, .int (zI x1)), (2, .int (zI x2)), (6, .int (zI x6)), (7, .int (zI x7))]) hx hb dX7_nearest_130 hl (j := 5) rfl (by decide) rfl (fun ls hl => ?_)
          refine lv_goto (tgt := 8) hx hb dX7_nearest_133 (by decide) ?_
          cases hf
          exact ih s0 x4 (x5 + 1) mo_pointX mo_pointY mo_points mo_crossing mo_crossings mo_rowY _ _ _ _ _ _ _ _ _ hnx _ _ _ hH h_mo h_mo_colour h_mo_layer h_mo_isColumn h_mo_corners h_mo_cornerX h_mo_cornerY h_mo_density h_mo_longest h_mo_shift h_mo_pull h_mo_hasUnderlay h_mo_pointX h_mo_pointY h_mo_crossing h_mo_isSewn hbg _ (lv_sub hl [3, 4, 5, 2, 1, 0] rfl) kx
        · replace hf := (if_neg c2).symm.trans hf
          refine lv_iload hx hb dX7_nearest_121 (lv_at hl 6 rfl) ?_
          refine lv_goto (tgt := 128) hx hb dX7_nearest_123 (by decide) ?_
          refine lv_istore (lv' := [(4, .int (zI x6)), (3, .int (zI s0)), (0, .ref (ad 19)), (1, .int (zI x1)), (2, .int (zI x2)), (5, .int (zI x5)), (6, .int (zI x6)), (7, .int (zI x7))]) hx hb dX7_nearest_128 hl (by decide) rfl (fun ls hl => ?_)
          refine lz_iinc (lv' := [(5, .int (zI (x5 + 1))), (4, .int (zI x6)), (3, .int (zI s0)), (0, .ref (ad 19)), (1, .int (zI x1)), (2, .int (zI x2)), (6, .int (zI x6)), (7, .int (zI x7))]) hx hb dX7_nearest_130 hl (j := 5) rfl (by decide) rfl (fun ls hl => ?_)
          refine lv_goto (tgt := 8) hx hb dX7_nearest_133 (by decide) ?_
          cases hf
          exact ih s0 x6 (x5 + 1) mo_pointX mo_pointY mo_points mo_crossing mo_crossings mo_rowY _ _ _ _ _ _ _ _ _ hnx _ _ _ hH h_mo h_mo_colour h_mo_layer h_mo_isColumn h_mo_corners h_mo_cornerX h_mo_cornerY h_mo_density h_mo_longest h_mo_shift h_mo_pull h_mo_hasUnderlay h_mo_pointX h_mo_pointY h_mo_crossing h_mo_isSewn hbg _ (lv_sub hl [3, 4, 5, 2, 1, 0] rfl) kx
      have JL8_102 : ∀ (mo_pointX : Int → Int) (mo_pointY : Int → Int) (mo_points : Int) (mo_crossing : Int → Int) (mo_crossings : Int) (mo_rowY : Int) (x3 : Int) (x4 : Int) (x5 : Int) (x6 : Int) (s0 : Int) (σ : Nat → va_E) (H : Heap) (locs : List Loc) (hH : zH D ad N (zFr ad N s.heap.size) s.heap σ H locs) (h_mo : σ 19 = oC_mo ad mo_fields mo_bound mo_points mo_crossings mo_isKnown mo_commands mo_needleX mo_needleY mo_hasFile mo_format mo_length mo_heads mo_late mo_ran mo_program mo_thrown mo_rowY mo_stitches) (h_mo_colour : σ 20 = .inl (cI, 8, .inl (zA mo_colour))) (h_mo_layer : σ 21 = .inl (cI, 8, .inl (zA mo_layer))) (h_mo_isColumn : σ 22 = .inl (cZ, 8, .inl (zA mo_isColumn))) (h_mo_corners : σ 23 = .inl (cI, 8, .inl (zA mo_corners))) (h_mo_cornerX : σ 24 = .inl (cI, 64, .inl (zA mo_cornerX))) (h_mo_cornerY : σ 25 = .inl (cI, 64, .inl (zA mo_cornerY))) (h_mo_density : σ 26 = .inl (cI, 8, .inl (zA mo_density))) (h_mo_longest : σ 27 = .inl (cI, 8, .inl (zA mo_longest))) (h_mo_shift : σ 28 = .inl (cI, 8, .inl (zA mo_shift))) (h_mo_pull : σ 29 = .inl (cI, 8, .inl (zA mo_pull))) (h_mo_hasUnderlay : σ 30 = .inl (cZ, 8, .inl (zA mo_hasUnderlay))) (h_mo_pointX : σ 31 = .inl (cI, 4096, .inl (zA mo_pointX))) (h_mo_pointY : σ 32 = .inl (cI, 4096, .inl (zA mo_pointY))) (h_mo_crossing : σ 33 = .inl (cI, 8, .inl (zA mo_crossing))) (h_mo_isSewn : σ 38 = .inl (cZ, 8, .inl (zA mo_isSewn))) (hbg : ∀ i : Nat, i ≠ 19 → i ≠ 31 → i ≠ 32 → i ≠ 33 → σ i = σ0 i) (ls : Array Slot) (hl : lv_has ls 8 [(0, .ref (ad 19)), (1, .int (zI x1)), (2, .int (zI x2)), (3, .int (zI x3)), (4, .int (zI x4)), (5, .int (zI x5)), (6, .int (zI x6))]), f_X7_nearest_L8_102 mo_fields mo_colour mo_layer mo_isColumn mo_corners mo_cornerX mo_cornerY mo_density mo_longest mo_shift mo_pull mo_hasUnderlay mo_pointX mo_pointY mo_points mo_crossing mo_crossings mo_needleX mo_needleY mo_isSewn mo_rowY x1 x2 x3 x4 x5 x6 s0 = some nx → W p l e rmX7_nearest s m args below meth c H locs 0 0 Q (F0 m 102 ls [.int (zI s0)]) := by
        intro mo_pointX mo_pointY mo_points mo_crossing mo_crossings mo_rowY x3 x4 x5 x6 s0 σ H locs hH h_mo h_mo_colour h_mo_layer h_mo_isColumn h_mo_corners h_mo_cornerX h_mo_cornerY h_mo_density h_mo_longest h_mo_shift h_mo_pull h_mo_hasUnderlay h_mo_pointX h_mo_pointY h_mo_crossing h_mo_isSewn hbg ls hl hf
        unfold f_X7_nearest_L8_102 at hf
        refine lv_istore (lv' := [(7, .int (zI s0)), (0, .ref (ad 19)), (1, .int (zI x1)), (2, .int (zI x2)), (3, .int (zI x3)), (4, .int (zI x4)), (5, .int (zI x5)), (6, .int (zI x6))]) hx hb dX7_nearest_102 hl (by decide) rfl (fun ls hl => ?_)
        refine lv_iload hx hb dX7_nearest_104 (lv_at hl 0 rfl) ?_
        obtain ⟨k3, hf⟩ := zck_some hf
        refine lz_if_eq (tgt := 114) hx hb k3 dX7_nearest_106 (by decide) (fun c4 => ?_) (fun c4 => ?_)
        · replace hf := (if_pos c4).symm.trans hf
          refine lv_iload_n hx hb dX7_nearest_114 rfl (lv_at hl 4 rfl) ?_
          exact JL8_115 mo_pointX mo_pointY mo_points mo_crossing mo_crossings mo_rowY x4 x5 x6 s0 x3 _ _ _ hH h_mo h_mo_colour h_mo_layer h_mo_isColumn h_mo_corners h_mo_cornerX h_mo_cornerY h_mo_density h_mo_longest h_mo_shift h_mo_pull h_mo_hasUnderlay h_mo_pointX h_mo_pointY h_mo_crossing h_mo_isSewn hbg _ (lv_sub hl [1, 2, 3, 5, 6, 7, 0] rfl) hf
        · replace hf := (if_neg c4).symm.trans hf
          refine lv_iload hx hb dX7_nearest_109 (lv_at hl 6 rfl) ?_
          refine lv_goto (tgt := 115) hx hb dX7_nearest_111 (by decide) ?_
          exact JL8_115 mo_pointX mo_pointY mo_points mo_crossing mo_crossings mo_rowY x4 x5 x6 s0 x5 _ _ _ hH h_mo h_mo_colour h_mo_layer h_mo_isColumn h_mo_corners h_mo_cornerX h_mo_cornerY h_mo_density h_mo_longest h_mo_shift h_mo_pull h_mo_hasUnderlay h_mo_pointX h_mo_pointY h_mo_crossing h_mo_isSewn hbg _ (lv_sub hl [1, 2, 3, 5, 6, 7, 0] rfl) hf
      have JL8_97 : ∀ (mo_pointX : Int → Int) (mo_pointY : Int → Int) (mo_points : Int) (mo_crossing : Int → Int) (mo_crossings : Int) (mo_rowY : Int) (x3 : Int) (x4 : Int) (x5 : Int) (x6 : Int) (σ : Nat → va_E) (H : Heap) (locs : List Loc) (hH : zH D ad N (zFr ad N s.heap.size) s.heap σ H locs) (h_mo : σ 19 = oC_mo ad mo_fields mo_bound mo_points mo_crossings mo_isKnown mo_commands mo_needleX mo_needleY mo_hasFile mo_format mo_length mo_heads mo_late mo_ran mo_program mo_thrown mo_rowY mo_stitches) (h_mo_colour : σ 20 = .inl (cI, 8, .inl (zA mo_colour))) (h_mo_layer : σ 21 = .inl (cI, 8, .inl (zA mo_layer))) (h_mo_isColumn : σ 22 = .inl (cZ, 8, .inl (zA mo_isColumn))) (h_mo_corners : σ 23 = .inl (cI, 8, .inl (zA mo_corners))) (h_mo_cornerX : σ 24 = .inl (cI, 64, .inl (zA mo_cornerX))) (h_mo_cornerY : σ 25 = .inl (cI, 64, .inl (zA mo_cornerY))) (h_mo_density : σ 26 = .inl (cI, 8, .inl (zA mo_density))) (h_mo_longest : σ 27 = .inl (cI, 8, .inl (zA mo_longest))) (h_mo_shift : σ 28 = .inl (cI, 8, .inl (zA mo_shift))) (h_mo_pull : σ 29 = .inl (cI, 8, .inl (zA mo_pull))) (h_mo_hasUnderlay : σ 30 = .inl (cZ, 8, .inl (zA mo_hasUnderlay))) (h_mo_pointX : σ 31 = .inl (cI, 4096, .inl (zA mo_pointX))) (h_mo_pointY : σ 32 = .inl (cI, 4096, .inl (zA mo_pointY))) (h_mo_crossing : σ 33 = .inl (cI, 8, .inl (zA mo_crossing))) (h_mo_isSewn : σ 38 = .inl (cZ, 8, .inl (zA mo_isSewn))) (hbg : ∀ i : Nat, i ≠ 19 → i ≠ 31 → i ≠ 32 → i ≠ 33 → σ i = σ0 i) (ls : Array Slot) (hl : lv_has ls 8 [(0, .ref (ad 19)), (1, .int (zI x1)), (2, .int (zI x2)), (3, .int (zI x3)), (4, .int (zI x4)), (5, .int (zI x5)), (6, .int (zI x6))]), f_X7_nearest_L8_97 mo_fields mo_colour mo_layer mo_isColumn mo_corners mo_cornerX mo_cornerY mo_density mo_longest mo_shift mo_pull mo_hasUnderlay mo_pointX mo_pointY mo_points mo_crossing mo_crossings mo_needleX mo_needleY mo_isSewn mo_rowY x1 x2 x3 x4 x5 x6 = some nx → W p l e rmX7_nearest s m args below meth c H locs 0 0 Q (F0 m 97 ls []) := by
        intro mo_pointX mo_pointY mo_points mo_crossing mo_crossings mo_rowY x3 x4 x5 x6 σ H locs hH h_mo h_mo_colour h_mo_layer h_mo_isColumn h_mo_corners h_mo_cornerX h_mo_cornerY h_mo_density h_mo_longest h_mo_shift h_mo_pull h_mo_hasUnderlay h_mo_pointX h_mo_pointY h_mo_crossing h_mo_isSewn hbg ls hl hf
        unfold f_X7_nearest_L8_97 at hf
        refine lv_iconst (v := zI 1) hx hb dX7_nearest_97 (by decide +kernel) ?_
        refine lv_goto (tgt := 102) hx hb dX7_nearest_98 (by decide) ?_
        exact JL8_102 mo_pointX mo_pointY mo_points mo_crossing mo_crossings mo_rowY x3 x4 x5 x6 1 _ _ _ hH h_mo h_mo_colour h_mo_layer h_mo_isColumn h_mo_corners h_mo_cornerX h_mo_cornerY h_mo_density h_mo_longest h_mo_shift h_mo_pull h_mo_hasUnderlay h_mo_pointX h_mo_pointY h_mo_crossing h_mo_isSewn hbg _ (lv_sub hl [0, 1, 2, 3, 4, 5, 6] rfl) hf
      have JL8_54 : ∀ (mo_pointX : Int → Int) (mo_pointY : Int → Int) (mo_points : Int) (mo_crossing : Int → Int) (mo_crossings : Int) (mo_rowY : Int) (x3 : Int) (x4 : Int) (x5 : Int) (σ : Nat → va_E) (H : Heap) (locs : List Loc) (hH : zH D ad N (zFr ad N s.heap.size) s.heap σ H locs) (h_mo : σ 19 = oC_mo ad mo_fields mo_bound mo_points mo_crossings mo_isKnown mo_commands mo_needleX mo_needleY mo_hasFile mo_format mo_length mo_heads mo_late mo_ran mo_program mo_thrown mo_rowY mo_stitches) (h_mo_colour : σ 20 = .inl (cI, 8, .inl (zA mo_colour))) (h_mo_layer : σ 21 = .inl (cI, 8, .inl (zA mo_layer))) (h_mo_isColumn : σ 22 = .inl (cZ, 8, .inl (zA mo_isColumn))) (h_mo_corners : σ 23 = .inl (cI, 8, .inl (zA mo_corners))) (h_mo_cornerX : σ 24 = .inl (cI, 64, .inl (zA mo_cornerX))) (h_mo_cornerY : σ 25 = .inl (cI, 64, .inl (zA mo_cornerY))) (h_mo_density : σ 26 = .inl (cI, 8, .inl (zA mo_density))) (h_mo_longest : σ 27 = .inl (cI, 8, .inl (zA mo_longest))) (h_mo_shift : σ 28 = .inl (cI, 8, .inl (zA mo_shift))) (h_mo_pull : σ 29 = .inl (cI, 8, .inl (zA mo_pull))) (h_mo_hasUnderlay : σ 30 = .inl (cZ, 8, .inl (zA mo_hasUnderlay))) (h_mo_pointX : σ 31 = .inl (cI, 4096, .inl (zA mo_pointX))) (h_mo_pointY : σ 32 = .inl (cI, 4096, .inl (zA mo_pointY))) (h_mo_crossing : σ 33 = .inl (cI, 8, .inl (zA mo_crossing))) (h_mo_isSewn : σ 38 = .inl (cZ, 8, .inl (zA mo_isSewn))) (hbg : ∀ i : Nat, i ≠ 19 → i ≠ 31 → i ≠ 32 → i ≠ 33 → σ i = σ0 i) (ls : Array Slot) (hl : lv_has ls 8 [(0, .ref (ad 19)), (1, .int (zI x1)), (2, .int (zI x2)), (3, .int (zI x3)), (4, .int (zI x4)), (5, .int (zI x5))]), f_X7_nearest_L8_54 mo_fields mo_colour mo_layer mo_isColumn mo_corners mo_cornerX mo_cornerY mo_density mo_longest mo_shift mo_pull mo_hasUnderlay mo_pointX mo_pointY mo_points mo_crossing mo_crossings mo_needleX mo_needleY mo_isSewn mo_rowY x1 x2 x3 x4 x5 = some nx → W p l e rmX7_nearest s m args below meth c H locs 0 0 Q (F0 m 54 ls []) := by
        intro mo_pointX mo_pointY mo_points mo_crossing mo_crossings mo_rowY x3 x4 x5 σ H locs hH h_mo h_mo_colour h_mo_layer h_mo_isColumn h_mo_corners h_mo_cornerX h_mo_cornerY h_mo_density h_mo_longest h_mo_shift h_mo_pull h_mo_hasUnderlay h_mo_pointX h_mo_pointY h_mo_crossing h_mo_isSewn hbg ls hl hf
        unfold f_X7_nearest_L8_54 at hf
        refine lv_aload_n hx hb dX7_nearest_54 rfl (lv_at hl 0 rfl) ?_
        refine lv_iload hx hb dX7_nearest_55 (lv_at hl 5 rfl) ?_
        obtain ⟨a5, a6, u7, a8, u9, u10, k11, hf⟩ := zb6_some hf
        refine zcVv (C := RX7) (As := [.int (zI x5)]) (rest := []) hx hb hml hown hts hl.1 hK hH hA (c_X7_finds hI hN  h_mo h_mo_isColumn h_mo_corners h_mo_cornerX h_mo_cornerY h_mo_density h_mo_longest h_mo_shift h_mo_pull h_mo_hasUnderlay h_mo_pointX h_mo_pointY h_mo_crossing k11) zk_t5_51 zk_t5_53 zk_s3_2 zk_t1_6 zk_t5_54 hd_X7_finds rfl ⟨rfl, rfl, Nat.le_of_ble_eq_true rfl, Nat.le_of_ble_eq_true rfl⟩ ⟨Nat.zero_le _, Nat.zero_le _⟩ hk_mo h_mo rfl rfl rfl (Nat.le_of_ble_eq_true rfl) dX7_nearest_57 (fun σ12 Hσ12 lσ12 hp hH => ?_)
        obtain ⟨h_mo, h_mo_pointX, h_mo_pointY, h_mo_crossing, hn⟩ := hp
        have h_mo_colour := (hn 20 (by decide) (by decide) (by decide) (by decide)).trans h_mo_colour
        have h_mo_layer := (hn 21 (by decide) (by decide) (by decide) (by decide)).trans h_mo_layer
        have h_mo_isColumn := (hn 22 (by decide) (by decide) (by decide) (by decide)).trans h_mo_isColumn
        have h_mo_corners := (hn 23 (by decide) (by decide) (by decide) (by decide)).trans h_mo_corners
        have h_mo_cornerX := (hn 24 (by decide) (by decide) (by decide) (by decide)).trans h_mo_cornerX
        have h_mo_cornerY := (hn 25 (by decide) (by decide) (by decide) (by decide)).trans h_mo_cornerY
        have h_mo_density := (hn 26 (by decide) (by decide) (by decide) (by decide)).trans h_mo_density
        have h_mo_longest := (hn 27 (by decide) (by decide) (by decide) (by decide)).trans h_mo_longest
        have h_mo_shift := (hn 28 (by decide) (by decide) (by decide) (by decide)).trans h_mo_shift
        have h_mo_pull := (hn 29 (by decide) (by decide) (by decide) (by decide)).trans h_mo_pull
        have h_mo_hasUnderlay := (hn 30 (by decide) (by decide) (by decide) (by decide)).trans h_mo_hasUnderlay
        have h_mo_isSewn := (hn 38 (by decide) (by decide) (by decide) (by decide)).trans h_mo_isSewn
        have hbg : ∀ i : Nat, i ≠ 19 → i ≠ 31 → i ≠ 32 → i ≠ 33 → σ12 i = σ0 i := fun i a0 a1 a2 a3 => (hn i a0 a1 a2 a3).trans (hbg i a0 a1 a2 a3)
        refine lv_aload_n hx hb dX7_nearest_60 rfl (lv_at hl 0 rfl) ?_
        refine zget hx hb inlX7 rfl 15 rfl zk_t4_128 hts hown hK hH hk_mo h_mo rfl dX7_nearest_61 ?_
        obtain ⟨k13, hf⟩ := zck_some hf
        refine lz_if_le (tgt := 130) hx hb k13 dX7_nearest_64 (by decide) (fun c14 => ?_) (fun c14 => ?_)
        · replace hf := (if_pos c14).symm.trans hf
          refine lz_iinc (lv' := [(5, .int (zI (x5 + 1))), (0, .ref (ad 19)), (1, .int (zI x1)), (2, .int (zI x2)), (3, .int (zI x3)), (4, .int (zI x4))]) hx hb dX7_nearest_130 hl (j := 5) rfl (by decide) rfl (fun ls hl => ?_)
          refine lv_goto (tgt := 8) hx hb dX7_nearest_133 (by decide) ?_
          cases hf
          exact ih x3 x4 (x5 + 1) a5 a6 u7 a8 u9 u10 _ _ _ _ _ _ _ _ _ hnx _ _ _ hH h_mo h_mo_colour h_mo_layer h_mo_isColumn h_mo_corners h_mo_cornerX h_mo_cornerY h_mo_density h_mo_longest h_mo_shift h_mo_pull h_mo_hasUnderlay h_mo_pointX h_mo_pointY h_mo_crossing h_mo_isSewn hbg _ (lv_sub hl [1, 2, 3, 4, 5, 0] rfl) kx
        · replace hf := (if_neg c14).symm.trans hf
          refine lv_aload_n hx hb dX7_nearest_67 rfl (lv_at hl 0 rfl) ?_
          refine lv_aload_n hx hb dX7_nearest_68 rfl (lv_at hl 0 rfl) ?_
          refine zget hx hb inlX7 rfl 13 rfl zk_t4_126 hts hown hK hH hk_mo h_mo rfl dX7_nearest_69 ?_
          refine lv_iconst (v := zI 0) hx hb dX7_nearest_72 (by decide +kernel) ?_
          refine ziald hx hb hK hH hk_mo_pointX 0 h_mo_pointX rfl (by decide) rfl dX7_nearest_73 ?_
          refine lv_aload_n hx hb dX7_nearest_74 rfl (lv_at hl 0 rfl) ?_
          refine zget hx hb inlX7 rfl 14 rfl zk_t4_127 hts hown hK hH hk_mo h_mo rfl dX7_nearest_75 ?_
          refine lv_iconst (v := zI 0) hx hb dX7_nearest_78 (by decide +kernel) ?_
          refine ziald hx hb hK hH hk_mo_pointY 0 h_mo_pointY rfl (by decide) rfl dX7_nearest_79 ?_
          obtain ⟨r15, k16, hf⟩ := zb1_some hf
          refine zcVi (C := RX7) (As := [.int (zI (a5 0)), .int (zI (a6 0))]) (rest := []) hx hb hml hown hts hl.1 hK hH hA (c_X7_squareTo hI hN  h_mo k16) zk_t5_91 zk_t5_93 zk_s3_9 zk_t1_6 zk_t5_94 hd_X7_squareTo rfl ⟨rfl, rfl, Nat.le_of_ble_eq_true rfl, Nat.le_of_ble_eq_true rfl⟩ ⟨Nat.zero_le _, Nat.zero_le _⟩ hk_mo h_mo rfl rfl rfl (Nat.le_of_ble_eq_true rfl) dX7_nearest_80 (fun q18 σ17 Hσ17 lσ17 hp hH => ?_)
          obtain ⟨hr1, hs1⟩ := hp; subst hr1; rw [hs1] at hH
          refine lv_istore (lv' := [(6, .int (zI r15)), (0, .ref (ad 19)), (1, .int (zI x1)), (2, .int (zI x2)), (3, .int (zI x3)), (4, .int (zI x4)), (5, .int (zI x5))]) hx hb dX7_nearest_83 hl (by decide) rfl (fun ls hl => ?_)
          refine lv_iload_n hx hb dX7_nearest_85 rfl (lv_at hl 4 rfl) ?_
          refine lv_iconst (v := zI (-1)) hx hb dX7_nearest_86 (by decide +kernel) ?_
          obtain ⟨k19, hf⟩ := zck_some hf
          refine lz_icmp_eq (tgt := 97) hx hb ⟨k19, by decide⟩ dX7_nearest_87 (by decide) (fun c20 => ?_) (fun c20 => ?_)
          · replace hf := (if_pos c20).symm.trans hf
            exact JL8_97 a5 a6 u7 a8 u9 u10 x3 x4 x5 r15 _ _ _ hH h_mo h_mo_colour h_mo_layer h_mo_isColumn h_mo_corners h_mo_cornerX h_mo_cornerY h_mo_density h_mo_longest h_mo_shift h_mo_pull h_mo_hasUnderlay h_mo_pointX h_mo_pointY h_mo_crossing h_mo_isSewn hbg _ (lv_sub hl [1, 2, 3, 4, 5, 6, 0] rfl) hf
          · replace hf := (if_neg c20).symm.trans hf
            refine lv_iload hx hb dX7_nearest_90 (lv_at hl 0 rfl) ?_
            refine lv_iload hx hb dX7_nearest_92 (lv_at hl 5 rfl) ?_
            obtain ⟨k21, hf⟩ := zck_some hf
            refine lz_icmp_ge (tgt := 101) hx hb k21 dX7_nearest_94 (by decide) (fun c22 => ?_) (fun c22 => ?_)
            · replace hf := (if_pos c22).symm.trans hf
              refine lv_iconst (v := zI 0) hx hb dX7_nearest_101 (by decide +kernel) ?_
              exact JL8_102 a5 a6 u7 a8 u9 u10 x3 x4 x5 r15 0 _ _ _ hH h_mo h_mo_colour h_mo_layer h_mo_isColumn h_mo_corners h_mo_cornerX h_mo_cornerY h_mo_density h_mo_longest h_mo_shift h_mo_pull h_mo_hasUnderlay h_mo_pointX h_mo_pointY h_mo_crossing h_mo_isSewn hbg _ (lv_sub hl [1, 2, 3, 4, 5, 6, 0] rfl) hf
            · replace hf := (if_neg c22).symm.trans hf
              exact JL8_97 a5 a6 u7 a8 u9 u10 x3 x4 x5 r15 _ _ _ hH h_mo h_mo_colour h_mo_layer h_mo_isColumn h_mo_corners h_mo_cornerX h_mo_cornerY h_mo_density h_mo_longest h_mo_shift h_mo_pull h_mo_hasUnderlay h_mo_pointX h_mo_pointY h_mo_crossing h_mo_isSewn hbg _ (lv_sub hl [1, 2, 3, 4, 5, 6, 0] rfl) hf
      unfold f_X7_nearest_L8 at hf
      refine lv_iload hx hb dX7_nearest_8 (lv_at hl 5 rfl) ?_
      refine lv_aload_n hx hb dX7_nearest_10 rfl (lv_at hl 0 rfl) ?_
      refine zget hx hb inlX7 rfl 0 rfl zk_t4_113 hts hown hK hH hk_mo h_mo rfl dX7_nearest_11 ?_
      obtain ⟨k23, hf⟩ := zck_some hf
      refine lz_icmp_ge (tgt := 136) hx hb k23 dX7_nearest_14 (by decide) (fun c24 => ?_) (fun c24 => ?_)
      · replace hf := (if_pos c24).symm.trans hf
        cases hf
        cases hnx
        exact kx _ _ _ hH h_mo h_mo_colour h_mo_layer h_mo_isColumn h_mo_corners h_mo_cornerX h_mo_cornerY h_mo_density h_mo_longest h_mo_shift h_mo_pull h_mo_hasUnderlay h_mo_pointX h_mo_pointY h_mo_crossing h_mo_isSewn hbg _ (lv_sub hl [3] rfl)
      · replace hf := (if_neg c24).symm.trans hf
        refine lv_aload_n hx hb dX7_nearest_17 rfl (lv_at hl 0 rfl) ?_
        refine zget hx hb inlX7 rfl 26 rfl zk_t4_139 hts hown hK hH hk_mo h_mo rfl dX7_nearest_18 ?_
        refine lv_iload hx hb dX7_nearest_21 (lv_at hl 5 rfl) ?_
        obtain ⟨k25, hf⟩ := zck_some hf
        refine zzald hx hb hK hH hk_mo_isSewn 1 h_mo_isSewn rfl k25 rfl dX7_nearest_23 ?_
        obtain ⟨k26, hf⟩ := zck_some hf
        refine lz_if_ne (tgt := 130) hx hb k26 dX7_nearest_24 (by decide) (fun c27 => ?_) (fun c27 => ?_)
        · replace hf := (if_neg c27).symm.trans hf
          refine lz_iinc (lv' := [(5, .int (zI (x5 + 1))), (0, .ref (ad 19)), (1, .int (zI x1)), (2, .int (zI x2)), (3, .int (zI x3)), (4, .int (zI x4))]) hx hb dX7_nearest_130 hl (j := 5) rfl (by decide) rfl (fun ls hl => ?_)
          refine lv_goto (tgt := 8) hx hb dX7_nearest_133 (by decide) ?_
          cases hf
          exact ih x3 x4 (x5 + 1) mo_pointX mo_pointY mo_points mo_crossing mo_crossings mo_rowY _ _ _ _ _ _ _ _ _ hnx _ _ _ hH h_mo h_mo_colour h_mo_layer h_mo_isColumn h_mo_corners h_mo_cornerX h_mo_cornerY h_mo_density h_mo_longest h_mo_shift h_mo_pull h_mo_hasUnderlay h_mo_pointX h_mo_pointY h_mo_crossing h_mo_isSewn hbg _ (lv_sub hl [1, 2, 3, 4, 5, 0] rfl) kx
        · replace hf := (if_pos c27).symm.trans hf
          refine lv_aload_n hx hb dX7_nearest_27 rfl (lv_at hl 0 rfl) ?_
          refine zget hx hb inlX7 rfl 2 rfl zk_t4_115 hts hown hK hH hk_mo h_mo rfl dX7_nearest_28 ?_
          refine lv_iload hx hb dX7_nearest_31 (lv_at hl 5 rfl) ?_
          obtain ⟨k28, hf⟩ := zck_some hf
          refine ziald hx hb hK hH hk_mo_layer 0 h_mo_layer rfl k28 rfl dX7_nearest_33 ?_
          refine lv_iload_n hx hb dX7_nearest_34 rfl (lv_at hl 1 rfl) ?_
          obtain ⟨k29, hf⟩ := zck_some hf
          refine lz_icmp_ne (tgt := 130) hx hb k29 dX7_nearest_35 (by decide) (fun c30 => ?_) (fun c30 => ?_)
          · replace hf := (if_neg c30).symm.trans hf
            refine lz_iinc (lv' := [(5, .int (zI (x5 + 1))), (0, .ref (ad 19)), (1, .int (zI x1)), (2, .int (zI x2)), (3, .int (zI x3)), (4, .int (zI x4))]) hx hb dX7_nearest_130 hl (j := 5) rfl (by decide) rfl (fun ls hl => ?_)
            refine lv_goto (tgt := 8) hx hb dX7_nearest_133 (by decide) ?_
            cases hf
            exact ih x3 x4 (x5 + 1) mo_pointX mo_pointY mo_points mo_crossing mo_crossings mo_rowY _ _ _ _ _ _ _ _ _ hnx _ _ _ hH h_mo h_mo_colour h_mo_layer h_mo_isColumn h_mo_corners h_mo_cornerX h_mo_cornerY h_mo_density h_mo_longest h_mo_shift h_mo_pull h_mo_hasUnderlay h_mo_pointX h_mo_pointY h_mo_crossing h_mo_isSewn hbg _ (lv_sub hl [1, 2, 3, 4, 5, 0] rfl) kx
          · replace hf := (if_pos c30).symm.trans hf
            refine lv_iload_n hx hb dX7_nearest_38 rfl (lv_at hl 2 rfl) ?_
            refine lv_iconst (v := zI (-1)) hx hb dX7_nearest_39 (by decide +kernel) ?_
            obtain ⟨k31, hf⟩ := zck_some hf
            refine lz_icmp_eq (tgt := 54) hx hb ⟨k31, by decide⟩ dX7_nearest_40 (by decide) (fun c32 => ?_) (fun c32 => ?_)
            · replace hf := (if_pos c32).symm.trans hf
              exact JL8_54 mo_pointX mo_pointY mo_points mo_crossing mo_crossings mo_rowY x3 x4 x5 _ _ _ hH h_mo h_mo_colour h_mo_layer h_mo_isColumn h_mo_corners h_mo_cornerX h_mo_cornerY h_mo_density h_mo_longest h_mo_shift h_mo_pull h_mo_hasUnderlay h_mo_pointX h_mo_pointY h_mo_crossing h_mo_isSewn hbg _ (lv_sub hl [0, 1, 2, 3, 4, 5] rfl) hf
            · replace hf := (if_neg c32).symm.trans hf
              refine lv_aload_n hx hb dX7_nearest_43 rfl (lv_at hl 0 rfl) ?_
              refine zget hx hb inlX7 rfl 1 rfl zk_t4_114 hts hown hK hH hk_mo h_mo rfl dX7_nearest_44 ?_
              refine lv_iload hx hb dX7_nearest_47 (lv_at hl 5 rfl) ?_
              obtain ⟨k33, hf⟩ := zck_some hf
              refine ziald hx hb hK hH hk_mo_colour 0 h_mo_colour rfl k33 rfl dX7_nearest_49 ?_
              refine lv_iload_n hx hb dX7_nearest_50 rfl (lv_at hl 2 rfl) ?_
              obtain ⟨k34, hf⟩ := zck_some hf
              refine lz_icmp_ne (tgt := 130) hx hb k34 dX7_nearest_51 (by decide) (fun c35 => ?_) (fun c35 => ?_)
              · replace hf := (if_neg c35).symm.trans hf
                refine lz_iinc (lv' := [(5, .int (zI (x5 + 1))), (0, .ref (ad 19)), (1, .int (zI x1)), (2, .int (zI x2)), (3, .int (zI x3)), (4, .int (zI x4))]) hx hb dX7_nearest_130 hl (j := 5) rfl (by decide) rfl (fun ls hl => ?_)
                refine lv_goto (tgt := 8) hx hb dX7_nearest_133 (by decide) ?_
                cases hf
                exact ih x3 x4 (x5 + 1) mo_pointX mo_pointY mo_points mo_crossing mo_crossings mo_rowY _ _ _ _ _ _ _ _ _ hnx _ _ _ hH h_mo h_mo_colour h_mo_layer h_mo_isColumn h_mo_corners h_mo_cornerX h_mo_cornerY h_mo_density h_mo_longest h_mo_shift h_mo_pull h_mo_hasUnderlay h_mo_pointX h_mo_pointY h_mo_crossing h_mo_isSewn hbg _ (lv_sub hl [1, 2, 3, 4, 5, 0] rfl) kx
              · replace hf := (if_pos c35).symm.trans hf
                exact JL8_54 mo_pointX mo_pointY mo_points mo_crossing mo_crossings mo_rowY x3 x4 x5 _ _ _ hH h_mo h_mo_colour h_mo_layer h_mo_isColumn h_mo_corners h_mo_cornerX h_mo_cornerY h_mo_density h_mo_longest h_mo_shift h_mo_pull h_mo_hasUnderlay h_mo_pointX h_mo_pointY h_mo_crossing h_mo_isSewn hbg _ (lv_sub hl [0, 1, 2, 3, 4, 5] rfl) hf
  unfold f_X7_nearest at hf
  refine lv_iconst (v := zI (-1)) hx hb dX7_nearest_0 (by decide +kernel) ?_
  refine lv_istore_n (lv' := [(3, .int (zI (-1))), (0, .ref (ad 19)), (1, .int (zI p1)), (2, .int (zI p2))]) hx hb dX7_nearest_1 rfl hl (by decide) rfl (fun ls hl => ?_)
  refine lv_iconst (v := zI 0) hx hb dX7_nearest_2 (by decide +kernel) ?_
  refine lv_istore (lv' := [(4, .int (zI 0)), (3, .int (zI (-1))), (0, .ref (ad 19)), (1, .int (zI p1)), (2, .int (zI p2))]) hx hb dX7_nearest_3 hl (by decide) rfl (fun ls hl => ?_)
  refine lv_iconst (v := zI 0) hx hb dX7_nearest_5 (by decide +kernel) ?_
  refine lv_istore (lv' := [(5, .int (zI 0)), (4, .int (zI 0)), (3, .int (zI (-1))), (0, .ref (ad 19)), (1, .int (zI p1)), (2, .int (zI p2))]) hx hb dX7_nearest_6 hl (by decide) rfl (fun ls hl => ?_)
  obtain ⟨w37, w38, w39, w40, w41, w42, w43, w44, w45, k36, hf⟩ := zb9_some hf
  refine L8 p1 p2 zFU (-1) 0 0 mo_pointX mo_pointY mo_points mo_crossing mo_crossings mo_rowY w37 w38 w39 w40 w41 w42 w43 w44 w45 k36 _ _ _ hH h_mo h_mo_colour h_mo_layer h_mo_isColumn h_mo_corners h_mo_cornerX h_mo_cornerY h_mo_density h_mo_longest h_mo_shift h_mo_pull h_mo_hasUnderlay h_mo_pointX h_mo_pointY h_mo_crossing h_mo_isSewn hbg _ (lv_sub hl [3, 4, 5, 2, 1, 0] rfl) (fun σ46 Hσ46 lσ46 hH h_mo h_mo_colour h_mo_layer h_mo_isColumn h_mo_corners h_mo_cornerX h_mo_cornerY h_mo_density h_mo_longest h_mo_shift h_mo_pull h_mo_hasUnderlay h_mo_pointX h_mo_pointY h_mo_crossing h_mo_isSewn hbg ls hl => ?_)
  refine lv_iload_n hx hb dX7_nearest_136 rfl (lv_at hl 0 rfl) ?_
  cases hf
  exact zreti hx hb hr hlocks hQ hH ⟨rfl, h_mo, h_mo_pointX, h_mo_pointY, h_mo_crossing, hbg⟩ dX7_nearest_137
abbrev rmX7_sews : Room := { frames := 4, cells := 0, slots := 0, locals := 99 }
theorem hd_X7_sews : yX7_sews.cls = RX7 ∧ yX7_sews.cls ≠ "java/lang/invoke/MethodHandle" ∧ yX7_sews.cls ≠ "java/lang/invoke/VarHandle" ∧ (parseMethodDescriptor yX7_sews.desc).map (fun d => d.parameters.length) = some 2 := by decide +kernel
set_option maxHeartbeats 4000000 in
set_option maxRecDepth 100000 in
theorem c_X7_sews {l : Launch} {D : va_G} {cI cZ cF cL cD : ClassId} {ad : Nat → Nat} {N : Nat} (hI : ∀ i j, i < N → j < N → ad i = ad j → i = j) (hN : 46 ≤ N) {σ0 : Nat → va_E} {sz : Nat} {mo_fields : Int} {mo_colour : Int → Int} {mo_isColumn : Int → Int} {mo_corners : Int → Int} {mo_cornerX : Int → Int} {mo_cornerY : Int → Int} {mo_density : Int → Int} {mo_longest : Int → Int} {mo_shift : Int → Int} {mo_pull : Int → Int} {mo_hasUnderlay : Int → Int} {mo_bound : Int} {mo_pointX : Int → Int} {mo_pointY : Int → Int} {mo_points : Int} {mo_crossing : Int → Int} {mo_crossings : Int} {mo_isKnown : Int} {mo_commands : Int} {mo_kind : Int → Int} {mo_byX : Int → Int} {mo_byY : Int → Int} {mo_fieldOf : Int → Int} {mo_needleX : Int} {mo_needleY : Int} {mo_hasFile : Int} {mo_format : Int} {mo_length : Int} {mo_heads : Int} {mo_late : Int} {mo_ran : Int} {mo_program : Int} {mo_thrown : Int} {mo_rowY : Int} {mo_stitches : Int} {p1 : Int} {p2 : Int} {R_mo_pointX : Int → Int} {R_mo_pointY : Int → Int} {R_mo_points : Int} {R_mo_crossing : Int → Int} {R_mo_crossings : Int} {R_mo_commands : Int} {R_mo_kind : Int → Int} {R_mo_byX : Int → Int} {R_mo_byY : Int → Int} {R_mo_fieldOf : Int → Int} {R_mo_needleX : Int} {R_mo_needleY : Int} {R_mo_rowY : Int} (h_mo : σ0 19 = oC_mo ad mo_fields mo_bound mo_points mo_crossings mo_isKnown mo_commands mo_needleX mo_needleY mo_hasFile mo_format mo_length mo_heads mo_late mo_ran mo_program mo_thrown mo_rowY mo_stitches) (h_mo_colour : σ0 20 = .inl (cI, 8, .inl (zA mo_colour))) (h_mo_isColumn : σ0 22 = .inl (cZ, 8, .inl (zA mo_isColumn))) (h_mo_corners : σ0 23 = .inl (cI, 8, .inl (zA mo_corners))) (h_mo_cornerX : σ0 24 = .inl (cI, 64, .inl (zA mo_cornerX))) (h_mo_cornerY : σ0 25 = .inl (cI, 64, .inl (zA mo_cornerY))) (h_mo_density : σ0 26 = .inl (cI, 8, .inl (zA mo_density))) (h_mo_longest : σ0 27 = .inl (cI, 8, .inl (zA mo_longest))) (h_mo_shift : σ0 28 = .inl (cI, 8, .inl (zA mo_shift))) (h_mo_pull : σ0 29 = .inl (cI, 8, .inl (zA mo_pull))) (h_mo_hasUnderlay : σ0 30 = .inl (cZ, 8, .inl (zA mo_hasUnderlay))) (h_mo_pointX : σ0 31 = .inl (cI, 4096, .inl (zA mo_pointX))) (h_mo_pointY : σ0 32 = .inl (cI, 4096, .inl (zA mo_pointY))) (h_mo_crossing : σ0 33 = .inl (cI, 8, .inl (zA mo_crossing))) (h_mo_kind : σ0 34 = .inl (cI, 20000, .inl (zA mo_kind))) (h_mo_byX : σ0 35 = .inl (cI, 20000, .inl (zA mo_byX))) (h_mo_byY : σ0 36 = .inl (cI, 20000, .inl (zA mo_byY))) (h_mo_fieldOf : σ0 37 = .inl (cI, 20000, .inl (zA mo_fieldOf))) (hf : f_X7_sews mo_colour mo_isColumn mo_corners mo_cornerX mo_cornerY mo_density mo_longest mo_shift mo_pull mo_hasUnderlay mo_bound mo_pointX mo_pointY mo_points mo_crossing mo_crossings mo_commands mo_kind mo_byX mo_byY mo_fieldOf mo_needleX mo_needleY mo_rowY p1 p2 = some (R_mo_pointX, R_mo_pointY, R_mo_points, R_mo_crossing, R_mo_crossings, R_mo_commands, R_mo_kind, R_mo_byX, R_mo_byY, R_mo_fieldOf, R_mo_needleX, R_mo_needleY, R_mo_rowY)) :
    Met l yX7_sews (Cond.code yX7_sews cX7_sews 7 none :: wsL_law) rmX7_sews (zPre D ad N (zT cI cZ cF cL cD) σ0 sz [.ref (ad 19), .int (zI p1), .int (zI p2)]) (zQv D ad N sz (fun σ' => σ' 19 = oC_mo ad mo_fields mo_bound R_mo_points R_mo_crossings mo_isKnown R_mo_commands R_mo_needleX R_mo_needleY mo_hasFile mo_format mo_length mo_heads mo_late mo_ran mo_program mo_thrown R_mo_rowY mo_stitches ∧ σ' 31 = .inl (cI, 4096, .inl (zA R_mo_pointX)) ∧ σ' 32 = .inl (cI, 4096, .inl (zA R_mo_pointY)) ∧ σ' 33 = .inl (cI, 8, .inl (zA R_mo_crossing)) ∧ σ' 34 = .inl (cI, 20000, .inl (zA R_mo_kind)) ∧ σ' 35 = .inl (cI, 20000, .inl (zA R_mo_byX)) ∧ σ' 36 = .inl (cI, 20000, .inl (zA R_mo_byY)) ∧ σ' 37 = .inl (cI, 20000, .inl (zA R_mo_fieldOf)) ∧ ∀ i : Nat, i ≠ 19 → i ≠ 31 → i ≠ 32 → i ≠ 33 → i ≠ 34 → i ≠ 35 → i ≠ 36 → i ≠ 37 → σ' i = σ0 i)) 0 0 (zFr ad N sz) := by
  refine zMet hI (plainFor_of_name (by decide)) (Nat.le_of_ble_eq_true rfl) ⟨rfl, rfl⟩ ?_
  intro p e s m args below meth c Q hx hb hr hlocks hml hown hts hK hsz hQ hH hA ls hl
  subst hsz
  have hk_mo : 19 < N := by omega
  have hk_mo_colour : 20 < N := by omega
  have hk_mo_isColumn : 22 < N := by omega
  have hk_mo_corners : 23 < N := by omega
  have hk_mo_cornerX : 24 < N := by omega
  have hk_mo_cornerY : 25 < N := by omega
  have hk_mo_density : 26 < N := by omega
  have hk_mo_longest : 27 < N := by omega
  have hk_mo_shift : 28 < N := by omega
  have hk_mo_pull : 29 < N := by omega
  have hk_mo_hasUnderlay : 30 < N := by omega
  have hk_mo_pointX : 31 < N := by omega
  have hk_mo_pointY : 32 < N := by omega
  have hk_mo_crossing : 33 < N := by omega
  have hk_mo_kind : 34 < N := by omega
  have hk_mo_byX : 35 < N := by omega
  have hk_mo_byY : 36 < N := by omega
  have hk_mo_fieldOf : 37 < N := by omega
  have hl : lv_has ls 7 [(0, .ref (ad 19)), (1, .int (zI p1)), (2, .int (zI p2))] := hl
  have hbg : ∀ i : Nat, i ≠ 19 → i ≠ 31 → i ≠ 32 → i ≠ 33 → i ≠ 34 → i ≠ 35 → i ≠ 36 → i ≠ 37 → σ0 i = σ0 i := fun _ _ _ _ _ _ _ _ _ => rfl
  have L101 : ∀ (mo_pointX : Int → Int) (mo_pointY : Int → Int) (mo_points : Int) (mo_crossing : Int → Int) (mo_crossings : Int) (mo_rowY : Int) (x1 : Int)  (n : Nat) (x4 : Int) (mo_commands : Int) (mo_kind : Int → Int) (mo_byX : Int → Int) (mo_byY : Int → Int) (mo_fieldOf : Int → Int) (mo_needleX : Int) (mo_needleY : Int) (x4' : Int) (mo_commands' : Int) (mo_kind' : Int → Int) (mo_byX' : Int → Int) (mo_byY' : Int → Int) (mo_fieldOf' : Int → Int) (mo_needleX' : Int) (mo_needleY' : Int), zlp (fun z => f_X7_sews_L101 mo_colour mo_isColumn mo_corners mo_cornerX mo_cornerY mo_density mo_longest mo_shift mo_pull mo_hasUnderlay mo_bound mo_pointX mo_pointY mo_points mo_crossing mo_crossings mo_rowY x1 z.1 z.2.1 z.2.2.1 z.2.2.2.1 z.2.2.2.2.1 z.2.2.2.2.2.1 z.2.2.2.2.2.2.1 z.2.2.2.2.2.2.2) n (x4, mo_commands, mo_kind, mo_byX, mo_byY, mo_fieldOf, mo_needleX, mo_needleY) = some (x4', mo_commands', mo_kind', mo_byX', mo_byY', mo_fieldOf', mo_needleX', mo_needleY') → ∀ (σ : Nat → va_E) (H : Heap) (locs : List Loc) (hH : zH D ad N (zFr ad N s.heap.size) s.heap σ H locs) (h_mo : σ 19 = oC_mo ad mo_fields mo_bound mo_points mo_crossings mo_isKnown mo_commands mo_needleX mo_needleY mo_hasFile mo_format mo_length mo_heads mo_late mo_ran mo_program mo_thrown mo_rowY mo_stitches) (h_mo_colour : σ 20 = .inl (cI, 8, .inl (zA mo_colour))) (h_mo_isColumn : σ 22 = .inl (cZ, 8, .inl (zA mo_isColumn))) (h_mo_corners : σ 23 = .inl (cI, 8, .inl (zA mo_corners))) (h_mo_cornerX : σ 24 = .inl (cI, 64, .inl (zA mo_cornerX))) (h_mo_cornerY : σ 25 = .inl (cI, 64, .inl (zA mo_cornerY))) (h_mo_density : σ 26 = .inl (cI, 8, .inl (zA mo_density))) (h_mo_longest : σ 27 = .inl (cI, 8, .inl (zA mo_longest))) (h_mo_shift : σ 28 = .inl (cI, 8, .inl (zA mo_shift))) (h_mo_pull : σ 29 = .inl (cI, 8, .inl (zA mo_pull))) (h_mo_hasUnderlay : σ 30 = .inl (cZ, 8, .inl (zA mo_hasUnderlay))) (h_mo_pointX : σ 31 = .inl (cI, 4096, .inl (zA mo_pointX))) (h_mo_pointY : σ 32 = .inl (cI, 4096, .inl (zA mo_pointY))) (h_mo_crossing : σ 33 = .inl (cI, 8, .inl (zA mo_crossing))) (h_mo_kind : σ 34 = .inl (cI, 20000, .inl (zA mo_kind))) (h_mo_byX : σ 35 = .inl (cI, 20000, .inl (zA mo_byX))) (h_mo_byY : σ 36 = .inl (cI, 20000, .inl (zA mo_byY))) (h_mo_fieldOf : σ 37 = .inl (cI, 20000, .inl (zA mo_fieldOf))) (hbg : ∀ i : Nat, i ≠ 19 → i ≠ 31 → i ≠ 32 → i ≠ 33 → i ≠ 34 → i ≠ 35 → i ≠ 36 → i ≠ 37 → σ i = σ0 i) (ls : Array Slot) (hl : lv_has ls 7 [(0, .ref (ad 19)), (1, .int (zI x1)), (4, .int (zI x4))]), (∀ (σ : Nat → va_E) (H : Heap) (locs : List Loc) (hH : zH D ad N (zFr ad N s.heap.size) s.heap σ H locs) (h_mo : σ 19 = oC_mo ad mo_fields mo_bound mo_points mo_crossings mo_isKnown (mo_commands') (mo_needleX') (mo_needleY') mo_hasFile mo_format mo_length mo_heads mo_late mo_ran mo_program mo_thrown mo_rowY mo_stitches) (h_mo_colour : σ 20 = .inl (cI, 8, .inl (zA mo_colour))) (h_mo_isColumn : σ 22 = .inl (cZ, 8, .inl (zA mo_isColumn))) (h_mo_corners : σ 23 = .inl (cI, 8, .inl (zA mo_corners))) (h_mo_cornerX : σ 24 = .inl (cI, 64, .inl (zA mo_cornerX))) (h_mo_cornerY : σ 25 = .inl (cI, 64, .inl (zA mo_cornerY))) (h_mo_density : σ 26 = .inl (cI, 8, .inl (zA mo_density))) (h_mo_longest : σ 27 = .inl (cI, 8, .inl (zA mo_longest))) (h_mo_shift : σ 28 = .inl (cI, 8, .inl (zA mo_shift))) (h_mo_pull : σ 29 = .inl (cI, 8, .inl (zA mo_pull))) (h_mo_hasUnderlay : σ 30 = .inl (cZ, 8, .inl (zA mo_hasUnderlay))) (h_mo_pointX : σ 31 = .inl (cI, 4096, .inl (zA mo_pointX))) (h_mo_pointY : σ 32 = .inl (cI, 4096, .inl (zA mo_pointY))) (h_mo_crossing : σ 33 = .inl (cI, 8, .inl (zA mo_crossing))) (h_mo_kind : σ 34 = .inl (cI, 20000, .inl (zA (mo_kind')))) (h_mo_byX : σ 35 = .inl (cI, 20000, .inl (zA (mo_byX')))) (h_mo_byY : σ 36 = .inl (cI, 20000, .inl (zA (mo_byY')))) (h_mo_fieldOf : σ 37 = .inl (cI, 20000, .inl (zA (mo_fieldOf')))) (hbg : ∀ i : Nat, i ≠ 19 → i ≠ 31 → i ≠ 32 → i ≠ 33 → i ≠ 34 → i ≠ 35 → i ≠ 36 → i ≠ 37 → σ i = σ0 i) (ls : Array Slot) (hl : lv_has ls 7 []), W p l e rmX7_sews s m args below meth c H locs 0 0 Q (F0 m 188 ls [])) → W p l e rmX7_sews s m args below meth c H locs 0 0 Q (F0 m 101 ls []) := by
    intro mo_pointX mo_pointY mo_points mo_crossing mo_crossings mo_rowY x1 n
    induction n with
    | zero => intro x4 mo_commands mo_kind mo_byX mo_byY mo_fieldOf mo_needleX mo_needleY x4' mo_commands' mo_kind' mo_byX' mo_byY' mo_fieldOf' mo_needleX' mo_needleY' hz; exact (zlp_0 hz).elim
    | succ n ih =>
      intro x4 mo_commands mo_kind mo_byX mo_byY mo_fieldOf mo_needleX mo_needleY x4' mo_commands' mo_kind' mo_byX' mo_byY' mo_fieldOf' mo_needleX' mo_needleY' hz σ H locs hH h_mo h_mo_colour h_mo_isColumn h_mo_corners h_mo_cornerX h_mo_cornerY h_mo_density h_mo_longest h_mo_shift h_mo_pull h_mo_hasUnderlay h_mo_pointX h_mo_pointY h_mo_crossing h_mo_kind h_mo_byX h_mo_byY h_mo_fieldOf hbg ls hl kx
      obtain ⟨nx, hf, hnx⟩ := zlp_some hz
      have hf : f_X7_sews_L101 mo_colour mo_isColumn mo_corners mo_cornerX mo_cornerY mo_density mo_longest mo_shift mo_pull mo_hasUnderlay mo_bound mo_pointX mo_pointY mo_points mo_crossing mo_crossings mo_rowY x1 x4 mo_commands mo_kind mo_byX mo_byY mo_fieldOf mo_needleX mo_needleY = some nx := hf
      have JL101_174 : ∀ (mo_commands : Int) (mo_kind : Int → Int) (mo_byX : Int → Int) (mo_byY : Int → Int) (mo_fieldOf : Int → Int) (mo_needleX : Int) (mo_needleY : Int) (x4 : Int) (x5 : Int) (x6 : Int) (s1 : Int) (σ : Nat → va_E) (H : Heap) (locs : List Loc) (hH : zH D ad N (zFr ad N s.heap.size) s.heap σ H locs) (h_mo : σ 19 = oC_mo ad mo_fields mo_bound mo_points mo_crossings mo_isKnown mo_commands mo_needleX mo_needleY mo_hasFile mo_format mo_length mo_heads mo_late mo_ran mo_program mo_thrown mo_rowY mo_stitches) (h_mo_colour : σ 20 = .inl (cI, 8, .inl (zA mo_colour))) (h_mo_isColumn : σ 22 = .inl (cZ, 8, .inl (zA mo_isColumn))) (h_mo_corners : σ 23 = .inl (cI, 8, .inl (zA mo_corners))) (h_mo_cornerX : σ 24 = .inl (cI, 64, .inl (zA mo_cornerX))) (h_mo_cornerY : σ 25 = .inl (cI, 64, .inl (zA mo_cornerY))) (h_mo_density : σ 26 = .inl (cI, 8, .inl (zA mo_density))) (h_mo_longest : σ 27 = .inl (cI, 8, .inl (zA mo_longest))) (h_mo_shift : σ 28 = .inl (cI, 8, .inl (zA mo_shift))) (h_mo_pull : σ 29 = .inl (cI, 8, .inl (zA mo_pull))) (h_mo_hasUnderlay : σ 30 = .inl (cZ, 8, .inl (zA mo_hasUnderlay))) (h_mo_pointX : σ 31 = .inl (cI, 4096, .inl (zA mo_pointX))) (h_mo_pointY : σ 32 = .inl (cI, 4096, .inl (zA mo_pointY))) (h_mo_crossing : σ 33 = .inl (cI, 8, .inl (zA mo_crossing))) (h_mo_kind : σ 34 = .inl (cI, 20000, .inl (zA mo_kind))) (h_mo_byX : σ 35 = .inl (cI, 20000, .inl (zA mo_byX))) (h_mo_byY : σ 36 = .inl (cI, 20000, .inl (zA mo_byY))) (h_mo_fieldOf : σ 37 = .inl (cI, 20000, .inl (zA mo_fieldOf))) (hbg : ∀ i : Nat, i ≠ 19 → i ≠ 31 → i ≠ 32 → i ≠ 33 → i ≠ 34 → i ≠ 35 → i ≠ 36 → i ≠ 37 → σ i = σ0 i) (ls : Array Slot) (hl : lv_has ls 7 [(0, .ref (ad 19)), (1, .int (zI x1)), (4, .int (zI x4)), (5, .int (zI x5)), (6, .int (zI x6))]), f_X7_sews_L101_174 mo_colour mo_isColumn mo_corners mo_cornerX mo_cornerY mo_density mo_longest mo_shift mo_pull mo_hasUnderlay mo_bound mo_pointX mo_pointY mo_points mo_crossing mo_crossings mo_commands mo_kind mo_byX mo_byY mo_fieldOf mo_needleX mo_needleY mo_rowY x1 x4 x5 x6 s1 = some nx → W p l e rmX7_sews s m args below meth c H locs 0 0 Q (F0 m 174 ls [.int (zI s1), .ref (ad 19)]) := by
        intro mo_commands mo_kind mo_byX mo_byY mo_fieldOf mo_needleX mo_needleY x4 x5 x6 s1 σ H locs hH h_mo h_mo_colour h_mo_isColumn h_mo_corners h_mo_cornerX h_mo_cornerY h_mo_density h_mo_longest h_mo_shift h_mo_pull h_mo_hasUnderlay h_mo_pointX h_mo_pointY h_mo_crossing h_mo_kind h_mo_byX h_mo_byY h_mo_fieldOf hbg ls hl hf
        unfold f_X7_sews_L101_174 at hf
        refine lv_iload hx hb dX7_sews_174 (lv_at hl 3 rfl) ?_
        refine lv_iload hx hb dX7_sews_176 (lv_at hl 4 rfl) ?_
        refine lv_iload_n hx hb dX7_sews_178 rfl (lv_at hl 1 rfl) ?_
        obtain ⟨u1, a2, a3, a4, a5, u6, u7, k8, hf⟩ := zb7_some hf
        refine zcVv (C := RX7) (As := [.int (zI s1), .int (zI x5), .int (zI x6), .int (zI x1)]) (rest := []) hx hb hml hown hts hl.1 hK hH hA (c_X7_command hI hN  h_mo h_mo_kind h_mo_byX h_mo_byY h_mo_fieldOf k8) zk_t5_99 zk_t5_101 zk_s3_11 zk_t1_6 zk_t5_102 hd_X7_command rfl ⟨rfl, rfl, Nat.le_of_ble_eq_true rfl, Nat.le_of_ble_eq_true rfl⟩ ⟨Nat.zero_le _, Nat.zero_le _⟩ hk_mo h_mo rfl rfl rfl (Nat.le_of_ble_eq_true rfl) dX7_sews_179 (fun σ9 Hσ9 lσ9 hp hH => ?_)
        obtain ⟨h_mo, h_mo_kind, h_mo_byX, h_mo_byY, h_mo_fieldOf, hn⟩ := hp
        have h_mo_colour := (hn 20 (by decide) (by decide) (by decide) (by decide) (by decide)).trans h_mo_colour
        have h_mo_isColumn := (hn 22 (by decide) (by decide) (by decide) (by decide) (by decide)).trans h_mo_isColumn
        have h_mo_corners := (hn 23 (by decide) (by decide) (by decide) (by decide) (by decide)).trans h_mo_corners
        have h_mo_cornerX := (hn 24 (by decide) (by decide) (by decide) (by decide) (by decide)).trans h_mo_cornerX
        have h_mo_cornerY := (hn 25 (by decide) (by decide) (by decide) (by decide) (by decide)).trans h_mo_cornerY
        have h_mo_density := (hn 26 (by decide) (by decide) (by decide) (by decide) (by decide)).trans h_mo_density
        have h_mo_longest := (hn 27 (by decide) (by decide) (by decide) (by decide) (by decide)).trans h_mo_longest
        have h_mo_shift := (hn 28 (by decide) (by decide) (by decide) (by decide) (by decide)).trans h_mo_shift
        have h_mo_pull := (hn 29 (by decide) (by decide) (by decide) (by decide) (by decide)).trans h_mo_pull
        have h_mo_hasUnderlay := (hn 30 (by decide) (by decide) (by decide) (by decide) (by decide)).trans h_mo_hasUnderlay
        have h_mo_pointX := (hn 31 (by decide) (by decide) (by decide) (by decide) (by decide)).trans h_mo_pointX
        have h_mo_pointY := (hn 32 (by decide) (by decide) (by decide) (by decide) (by decide)).trans h_mo_pointY
        have h_mo_crossing := (hn 33 (by decide) (by decide) (by decide) (by decide) (by decide)).trans h_mo_crossing
        have hbg : ∀ i : Nat, i ≠ 19 → i ≠ 31 → i ≠ 32 → i ≠ 33 → i ≠ 34 → i ≠ 35 → i ≠ 36 → i ≠ 37 → σ9 i = σ0 i := fun i a0 a1 a2 a3 a4 a5 a6 a7 => (hn i a0 a4 a5 a6 a7).trans (hbg i a0 a1 a2 a3 a4 a5 a6 a7)
        refine lz_iinc (lv' := [(4, .int (zI (x4 + 1))), (0, .ref (ad 19)), (1, .int (zI x1)), (5, .int (zI x5)), (6, .int (zI x6))]) hx hb dX7_sews_182 hl (j := 2) rfl (by decide) rfl (fun ls hl => ?_)
        refine lv_goto (tgt := 101) hx hb dX7_sews_185 (by decide) ?_
        cases hf
        exact ih (x4 + 1) u1 a2 a3 a4 a5 u6 u7 _ _ _ _ _ _ _ _ hnx _ _ _ hH h_mo h_mo_colour h_mo_isColumn h_mo_corners h_mo_cornerX h_mo_cornerY h_mo_density h_mo_longest h_mo_shift h_mo_pull h_mo_hasUnderlay h_mo_pointX h_mo_pointY h_mo_crossing h_mo_kind h_mo_byX h_mo_byY h_mo_fieldOf hbg _ (lv_sub hl [1, 2, 0] rfl) kx
      have JL101_173 : ∀ (mo_commands : Int) (mo_kind : Int → Int) (mo_byX : Int → Int) (mo_byY : Int → Int) (mo_fieldOf : Int → Int) (mo_needleX : Int) (mo_needleY : Int) (x4 : Int) (x5 : Int) (x6 : Int) (σ : Nat → va_E) (H : Heap) (locs : List Loc) (hH : zH D ad N (zFr ad N s.heap.size) s.heap σ H locs) (h_mo : σ 19 = oC_mo ad mo_fields mo_bound mo_points mo_crossings mo_isKnown mo_commands mo_needleX mo_needleY mo_hasFile mo_format mo_length mo_heads mo_late mo_ran mo_program mo_thrown mo_rowY mo_stitches) (h_mo_colour : σ 20 = .inl (cI, 8, .inl (zA mo_colour))) (h_mo_isColumn : σ 22 = .inl (cZ, 8, .inl (zA mo_isColumn))) (h_mo_corners : σ 23 = .inl (cI, 8, .inl (zA mo_corners))) (h_mo_cornerX : σ 24 = .inl (cI, 64, .inl (zA mo_cornerX))) (h_mo_cornerY : σ 25 = .inl (cI, 64, .inl (zA mo_cornerY))) (h_mo_density : σ 26 = .inl (cI, 8, .inl (zA mo_density))) (h_mo_longest : σ 27 = .inl (cI, 8, .inl (zA mo_longest))) (h_mo_shift : σ 28 = .inl (cI, 8, .inl (zA mo_shift))) (h_mo_pull : σ 29 = .inl (cI, 8, .inl (zA mo_pull))) (h_mo_hasUnderlay : σ 30 = .inl (cZ, 8, .inl (zA mo_hasUnderlay))) (h_mo_pointX : σ 31 = .inl (cI, 4096, .inl (zA mo_pointX))) (h_mo_pointY : σ 32 = .inl (cI, 4096, .inl (zA mo_pointY))) (h_mo_crossing : σ 33 = .inl (cI, 8, .inl (zA mo_crossing))) (h_mo_kind : σ 34 = .inl (cI, 20000, .inl (zA mo_kind))) (h_mo_byX : σ 35 = .inl (cI, 20000, .inl (zA mo_byX))) (h_mo_byY : σ 36 = .inl (cI, 20000, .inl (zA mo_byY))) (h_mo_fieldOf : σ 37 = .inl (cI, 20000, .inl (zA mo_fieldOf))) (hbg : ∀ i : Nat, i ≠ 19 → i ≠ 31 → i ≠ 32 → i ≠ 33 → i ≠ 34 → i ≠ 35 → i ≠ 36 → i ≠ 37 → σ i = σ0 i) (ls : Array Slot) (hl : lv_has ls 7 [(0, .ref (ad 19)), (1, .int (zI x1)), (4, .int (zI x4)), (5, .int (zI x5)), (6, .int (zI x6))]), f_X7_sews_L101_173 mo_colour mo_isColumn mo_corners mo_cornerX mo_cornerY mo_density mo_longest mo_shift mo_pull mo_hasUnderlay mo_bound mo_pointX mo_pointY mo_points mo_crossing mo_crossings mo_commands mo_kind mo_byX mo_byY mo_fieldOf mo_needleX mo_needleY mo_rowY x1 x4 x5 x6 = some nx → W p l e rmX7_sews s m args below meth c H locs 0 0 Q (F0 m 173 ls [.ref (ad 19)]) := by
        intro mo_commands mo_kind mo_byX mo_byY mo_fieldOf mo_needleX mo_needleY x4 x5 x6 σ H locs hH h_mo h_mo_colour h_mo_isColumn h_mo_corners h_mo_cornerX h_mo_cornerY h_mo_density h_mo_longest h_mo_shift h_mo_pull h_mo_hasUnderlay h_mo_pointX h_mo_pointY h_mo_crossing h_mo_kind h_mo_byX h_mo_byY h_mo_fieldOf hbg ls hl hf
        unfold f_X7_sews_L101_173 at hf
        refine lv_iconst (v := zI 1) hx hb dX7_sews_173 (by decide +kernel) ?_
        exact JL101_174 mo_commands mo_kind mo_byX mo_byY mo_fieldOf mo_needleX mo_needleY x4 x5 x6 1 _ _ _ hH h_mo h_mo_colour h_mo_isColumn h_mo_corners h_mo_cornerX h_mo_cornerY h_mo_density h_mo_longest h_mo_shift h_mo_pull h_mo_hasUnderlay h_mo_pointX h_mo_pointY h_mo_crossing h_mo_kind h_mo_byX h_mo_byY h_mo_fieldOf hbg _ (lv_sub hl [0, 1, 2, 3, 4] rfl) hf
      have JL101_148 : ∀ (mo_commands : Int) (mo_kind : Int → Int) (mo_byX : Int → Int) (mo_byY : Int → Int) (mo_fieldOf : Int → Int) (mo_needleX : Int) (mo_needleY : Int) (x4 : Int) (x5 : Int) (x6 : Int) (σ : Nat → va_E) (H : Heap) (locs : List Loc) (hH : zH D ad N (zFr ad N s.heap.size) s.heap σ H locs) (h_mo : σ 19 = oC_mo ad mo_fields mo_bound mo_points mo_crossings mo_isKnown mo_commands mo_needleX mo_needleY mo_hasFile mo_format mo_length mo_heads mo_late mo_ran mo_program mo_thrown mo_rowY mo_stitches) (h_mo_colour : σ 20 = .inl (cI, 8, .inl (zA mo_colour))) (h_mo_isColumn : σ 22 = .inl (cZ, 8, .inl (zA mo_isColumn))) (h_mo_corners : σ 23 = .inl (cI, 8, .inl (zA mo_corners))) (h_mo_cornerX : σ 24 = .inl (cI, 64, .inl (zA mo_cornerX))) (h_mo_cornerY : σ 25 = .inl (cI, 64, .inl (zA mo_cornerY))) (h_mo_density : σ 26 = .inl (cI, 8, .inl (zA mo_density))) (h_mo_longest : σ 27 = .inl (cI, 8, .inl (zA mo_longest))) (h_mo_shift : σ 28 = .inl (cI, 8, .inl (zA mo_shift))) (h_mo_pull : σ 29 = .inl (cI, 8, .inl (zA mo_pull))) (h_mo_hasUnderlay : σ 30 = .inl (cZ, 8, .inl (zA mo_hasUnderlay))) (h_mo_pointX : σ 31 = .inl (cI, 4096, .inl (zA mo_pointX))) (h_mo_pointY : σ 32 = .inl (cI, 4096, .inl (zA mo_pointY))) (h_mo_crossing : σ 33 = .inl (cI, 8, .inl (zA mo_crossing))) (h_mo_kind : σ 34 = .inl (cI, 20000, .inl (zA mo_kind))) (h_mo_byX : σ 35 = .inl (cI, 20000, .inl (zA mo_byX))) (h_mo_byY : σ 36 = .inl (cI, 20000, .inl (zA mo_byY))) (h_mo_fieldOf : σ 37 = .inl (cI, 20000, .inl (zA mo_fieldOf))) (hbg : ∀ i : Nat, i ≠ 19 → i ≠ 31 → i ≠ 32 → i ≠ 33 → i ≠ 34 → i ≠ 35 → i ≠ 36 → i ≠ 37 → σ i = σ0 i) (ls : Array Slot) (hl : lv_has ls 7 [(0, .ref (ad 19)), (1, .int (zI x1)), (4, .int (zI x4)), (5, .int (zI x5)), (6, .int (zI x6))]), f_X7_sews_L101_148 mo_colour mo_isColumn mo_corners mo_cornerX mo_cornerY mo_density mo_longest mo_shift mo_pull mo_hasUnderlay mo_bound mo_pointX mo_pointY mo_points mo_crossing mo_crossings mo_commands mo_kind mo_byX mo_byY mo_fieldOf mo_needleX mo_needleY mo_rowY x1 x4 x5 x6 = some nx → W p l e rmX7_sews s m args below meth c H locs 0 0 Q (F0 m 148 ls []) := by
        intro mo_commands mo_kind mo_byX mo_byY mo_fieldOf mo_needleX mo_needleY x4 x5 x6 σ H locs hH h_mo h_mo_colour h_mo_isColumn h_mo_corners h_mo_cornerX h_mo_cornerY h_mo_density h_mo_longest h_mo_shift h_mo_pull h_mo_hasUnderlay h_mo_pointX h_mo_pointY h_mo_crossing h_mo_kind h_mo_byX h_mo_byY h_mo_fieldOf hbg ls hl hf
        unfold f_X7_sews_L101_148 at hf
        refine lv_aload_n hx hb dX7_sews_148 rfl (lv_at hl 0 rfl) ?_
        refine lv_iload hx hb dX7_sews_149 (lv_at hl 3 rfl) ?_
        obtain ⟨r10, k11, hf⟩ := zb1_some hf
        refine zcSi (As := [.int (zI x5)]) (rest := [.ref (ad 19)]) hx hb hml hown hts hl.1 hK hH hA (c_X7_size hI hN   k11) zk_t5_59 zk_t5_60 zk_t1_6 zk_t5_61 hd_X7_size rfl ⟨rfl, rfl, Nat.le_of_ble_eq_true rfl, Nat.le_of_ble_eq_true rfl⟩ ⟨Nat.zero_le _, Nat.zero_le _⟩ rfl (Nat.le_of_ble_eq_true rfl) dX7_sews_151 (fun q13 σ12 Hσ12 lσ12 hp hH => ?_)
        obtain ⟨hr1, hs1⟩ := hp; subst hr1; rw [hs1] at hH
        refine lv_bipush (v := zI 12) hx hb dX7_sews_154 (by decide +kernel) ?_
        obtain ⟨k14, hf⟩ := zck_some hf
        refine lz_icmp_gt (tgt := 173) hx hb ⟨k14, by decide⟩ dX7_sews_156 (by decide) (fun c15 => ?_) (fun c15 => ?_)
        · replace hf := (if_pos c15).symm.trans hf
          exact JL101_173 mo_commands mo_kind mo_byX mo_byY mo_fieldOf mo_needleX mo_needleY x4 x5 x6 _ _ _ hH h_mo h_mo_colour h_mo_isColumn h_mo_corners h_mo_cornerX h_mo_cornerY h_mo_density h_mo_longest h_mo_shift h_mo_pull h_mo_hasUnderlay h_mo_pointX h_mo_pointY h_mo_crossing h_mo_kind h_mo_byX h_mo_byY h_mo_fieldOf hbg _ (lv_sub hl [0, 1, 2, 3, 4] rfl) hf
        · replace hf := (if_neg c15).symm.trans hf
          refine lv_iload hx hb dX7_sews_159 (lv_at hl 4 rfl) ?_
          obtain ⟨r16, k17, hf⟩ := zb1_some hf
          refine zcSi (As := [.int (zI x6)]) (rest := [.ref (ad 19)]) hx hb hml hown hts hl.1 hK hH hA (c_X7_size hI hN   k17) zk_t5_59 zk_t5_60 zk_t1_6 zk_t5_61 hd_X7_size rfl ⟨rfl, rfl, Nat.le_of_ble_eq_true rfl, Nat.le_of_ble_eq_true rfl⟩ ⟨Nat.zero_le _, Nat.zero_le _⟩ rfl (Nat.le_of_ble_eq_true rfl) dX7_sews_161 (fun q19 σ18 Hσ18 lσ18 hp hH => ?_)
          obtain ⟨hr1, hs1⟩ := hp; subst hr1; rw [hs1] at hH
          refine lv_bipush (v := zI 12) hx hb dX7_sews_164 (by decide +kernel) ?_
          obtain ⟨k20, hf⟩ := zck_some hf
          refine lz_icmp_gt (tgt := 173) hx hb ⟨k20, by decide⟩ dX7_sews_166 (by decide) (fun c21 => ?_) (fun c21 => ?_)
          · replace hf := (if_pos c21).symm.trans hf
            exact JL101_173 mo_commands mo_kind mo_byX mo_byY mo_fieldOf mo_needleX mo_needleY x4 x5 x6 _ _ _ hH h_mo h_mo_colour h_mo_isColumn h_mo_corners h_mo_cornerX h_mo_cornerY h_mo_density h_mo_longest h_mo_shift h_mo_pull h_mo_hasUnderlay h_mo_pointX h_mo_pointY h_mo_crossing h_mo_kind h_mo_byX h_mo_byY h_mo_fieldOf hbg _ (lv_sub hl [0, 1, 2, 3, 4] rfl) hf
          · replace hf := (if_neg c21).symm.trans hf
            refine lv_iconst (v := zI 0) hx hb dX7_sews_169 (by decide +kernel) ?_
            refine lv_goto (tgt := 174) hx hb dX7_sews_170 (by decide) ?_
            exact JL101_174 mo_commands mo_kind mo_byX mo_byY mo_fieldOf mo_needleX mo_needleY x4 x5 x6 0 _ _ _ hH h_mo h_mo_colour h_mo_isColumn h_mo_corners h_mo_cornerX h_mo_cornerY h_mo_density h_mo_longest h_mo_shift h_mo_pull h_mo_hasUnderlay h_mo_pointX h_mo_pointY h_mo_crossing h_mo_kind h_mo_byX h_mo_byY h_mo_fieldOf hbg _ (lv_sub hl [0, 1, 2, 3, 4] rfl) hf
      unfold f_X7_sews_L101 at hf
      refine lv_iload hx hb dX7_sews_101 (lv_at hl 2 rfl) ?_
      refine lv_aload_n hx hb dX7_sews_103 rfl (lv_at hl 0 rfl) ?_
      refine zget hx hb inlX7 rfl 15 rfl zk_t4_128 hts hown hK hH hk_mo h_mo rfl dX7_sews_104 ?_
      obtain ⟨k22, hf⟩ := zck_some hf
      refine lz_icmp_ge (tgt := 188) hx hb k22 dX7_sews_107 (by decide) (fun c23 => ?_) (fun c23 => ?_)
      · replace hf := (if_pos c23).symm.trans hf
        cases hf
        cases hnx
        exact kx _ _ _ hH h_mo h_mo_colour h_mo_isColumn h_mo_corners h_mo_cornerX h_mo_cornerY h_mo_density h_mo_longest h_mo_shift h_mo_pull h_mo_hasUnderlay h_mo_pointX h_mo_pointY h_mo_crossing h_mo_kind h_mo_byX h_mo_byY h_mo_fieldOf hbg _ (lv_sub hl [] rfl)
      · replace hf := (if_neg c23).symm.trans hf
        refine lv_aload_n hx hb dX7_sews_110 rfl (lv_at hl 0 rfl) ?_
        refine zget hx hb inlX7 rfl 13 rfl zk_t4_126 hts hown hK hH hk_mo h_mo rfl dX7_sews_111 ?_
        refine lv_iload hx hb dX7_sews_114 (lv_at hl 2 rfl) ?_
        obtain ⟨k24, hf⟩ := zck_some hf
        refine ziald hx hb hK hH hk_mo_pointX 0 h_mo_pointX rfl k24 rfl dX7_sews_116 ?_
        refine lv_aload_n hx hb dX7_sews_117 rfl (lv_at hl 0 rfl) ?_
        refine zget hx hb inlX7 rfl 24 rfl zk_t4_137 hts hown hK hH hk_mo h_mo rfl dX7_sews_118 ?_
        refine lz_isub hx hb dX7_sews_121 ?_
        obtain ⟨v25, ev25, hf⟩ := zlt_some hf
        refine lz_nm ev25 ?_
        refine lv_istore (lv' := [(5, .int (zI v25)), (0, .ref (ad 19)), (1, .int (zI x1)), (4, .int (zI x4))]) hx hb dX7_sews_122 hl (by decide) rfl (fun ls hl => ?_)
        refine lv_aload_n hx hb dX7_sews_124 rfl (lv_at hl 1 rfl) ?_
        refine zget hx hb inlX7 rfl 14 rfl zk_t4_127 hts hown hK hH hk_mo h_mo rfl dX7_sews_125 ?_
        refine lv_iload hx hb dX7_sews_128 (lv_at hl 3 rfl) ?_
        obtain ⟨k26, hf⟩ := zck_some hf
        refine ziald hx hb hK hH hk_mo_pointY 0 h_mo_pointY rfl k26 rfl dX7_sews_130 ?_
        refine lv_aload_n hx hb dX7_sews_131 rfl (lv_at hl 1 rfl) ?_
        refine zget hx hb inlX7 rfl 25 rfl zk_t4_138 hts hown hK hH hk_mo h_mo rfl dX7_sews_132 ?_
        refine lz_isub hx hb dX7_sews_135 ?_
        obtain ⟨v27, ev27, hf⟩ := zlt_some hf
        refine lz_nm ev27 ?_
        refine lv_istore (lv' := [(6, .int (zI v27)), (5, .int (zI v25)), (0, .ref (ad 19)), (1, .int (zI x1)), (4, .int (zI x4))]) hx hb dX7_sews_136 hl (by decide) rfl (fun ls hl => ?_)
        refine lv_iload hx hb dX7_sews_138 (lv_at hl 1 rfl) ?_
        obtain ⟨k28, hf⟩ := zck_some hf
        refine lz_if_ne (tgt := 148) hx hb k28 dX7_sews_140 (by decide) (fun c29 => ?_) (fun c29 => ?_)
        · replace hf := (if_neg c29).symm.trans hf
          exact JL101_148 mo_commands mo_kind mo_byX mo_byY mo_fieldOf mo_needleX mo_needleY x4 v25 v27 _ _ _ hH h_mo h_mo_colour h_mo_isColumn h_mo_corners h_mo_cornerX h_mo_cornerY h_mo_density h_mo_longest h_mo_shift h_mo_pull h_mo_hasUnderlay h_mo_pointX h_mo_pointY h_mo_crossing h_mo_kind h_mo_byX h_mo_byY h_mo_fieldOf hbg _ (lv_sub hl [2, 3, 4, 1, 0] rfl) hf
        · replace hf := (if_pos c29).symm.trans hf
          refine lv_iload hx hb dX7_sews_143 (lv_at hl 0 rfl) ?_
          obtain ⟨k30, hf⟩ := zck_some hf
          refine lz_if_eq (tgt := 182) hx hb k30 dX7_sews_145 (by decide) (fun c31 => ?_) (fun c31 => ?_)
          · replace hf := (if_pos c31).symm.trans hf
            refine lz_iinc (lv' := [(4, .int (zI (x4 + 1))), (6, .int (zI v27)), (5, .int (zI v25)), (0, .ref (ad 19)), (1, .int (zI x1))]) hx hb dX7_sews_182 hl (j := 4) rfl (by decide) rfl (fun ls hl => ?_)
            refine lv_goto (tgt := 101) hx hb dX7_sews_185 (by decide) ?_
            cases hf
            exact ih (x4 + 1) mo_commands mo_kind mo_byX mo_byY mo_fieldOf mo_needleX mo_needleY _ _ _ _ _ _ _ _ hnx _ _ _ hH h_mo h_mo_colour h_mo_isColumn h_mo_corners h_mo_cornerX h_mo_cornerY h_mo_density h_mo_longest h_mo_shift h_mo_pull h_mo_hasUnderlay h_mo_pointX h_mo_pointY h_mo_crossing h_mo_kind h_mo_byX h_mo_byY h_mo_fieldOf hbg _ (lv_sub hl [3, 4, 0] rfl) kx
          · replace hf := (if_neg c31).symm.trans hf
            exact JL101_148 mo_commands mo_kind mo_byX mo_byY mo_fieldOf mo_needleX mo_needleY x4 v25 v27 _ _ _ hH h_mo h_mo_colour h_mo_isColumn h_mo_corners h_mo_cornerX h_mo_cornerY h_mo_density h_mo_longest h_mo_shift h_mo_pull h_mo_hasUnderlay h_mo_pointX h_mo_pointY h_mo_crossing h_mo_kind h_mo_byX h_mo_byY h_mo_fieldOf hbg _ (lv_sub hl [2, 3, 4, 1, 0] rfl) hf
  have J98 : ∀ (mo_pointX : Int → Int) (mo_pointY : Int → Int) (mo_points : Int) (mo_crossing : Int → Int) (mo_crossings : Int) (mo_commands : Int) (mo_kind : Int → Int) (mo_byX : Int → Int) (mo_byY : Int → Int) (mo_fieldOf : Int → Int) (mo_needleX : Int) (mo_needleY : Int) (mo_rowY : Int) (x1 : Int) (σ : Nat → va_E) (H : Heap) (locs : List Loc) (hH : zH D ad N (zFr ad N s.heap.size) s.heap σ H locs) (h_mo : σ 19 = oC_mo ad mo_fields mo_bound mo_points mo_crossings mo_isKnown mo_commands mo_needleX mo_needleY mo_hasFile mo_format mo_length mo_heads mo_late mo_ran mo_program mo_thrown mo_rowY mo_stitches) (h_mo_colour : σ 20 = .inl (cI, 8, .inl (zA mo_colour))) (h_mo_isColumn : σ 22 = .inl (cZ, 8, .inl (zA mo_isColumn))) (h_mo_corners : σ 23 = .inl (cI, 8, .inl (zA mo_corners))) (h_mo_cornerX : σ 24 = .inl (cI, 64, .inl (zA mo_cornerX))) (h_mo_cornerY : σ 25 = .inl (cI, 64, .inl (zA mo_cornerY))) (h_mo_density : σ 26 = .inl (cI, 8, .inl (zA mo_density))) (h_mo_longest : σ 27 = .inl (cI, 8, .inl (zA mo_longest))) (h_mo_shift : σ 28 = .inl (cI, 8, .inl (zA mo_shift))) (h_mo_pull : σ 29 = .inl (cI, 8, .inl (zA mo_pull))) (h_mo_hasUnderlay : σ 30 = .inl (cZ, 8, .inl (zA mo_hasUnderlay))) (h_mo_pointX : σ 31 = .inl (cI, 4096, .inl (zA mo_pointX))) (h_mo_pointY : σ 32 = .inl (cI, 4096, .inl (zA mo_pointY))) (h_mo_crossing : σ 33 = .inl (cI, 8, .inl (zA mo_crossing))) (h_mo_kind : σ 34 = .inl (cI, 20000, .inl (zA mo_kind))) (h_mo_byX : σ 35 = .inl (cI, 20000, .inl (zA mo_byX))) (h_mo_byY : σ 36 = .inl (cI, 20000, .inl (zA mo_byY))) (h_mo_fieldOf : σ 37 = .inl (cI, 20000, .inl (zA mo_fieldOf))) (hbg : ∀ i : Nat, i ≠ 19 → i ≠ 31 → i ≠ 32 → i ≠ 33 → i ≠ 34 → i ≠ 35 → i ≠ 36 → i ≠ 37 → σ i = σ0 i) (ls : Array Slot) (hl : lv_has ls 7 [(0, .ref (ad 19)), (1, .int (zI x1))]), f_X7_sews_98 mo_colour mo_isColumn mo_corners mo_cornerX mo_cornerY mo_density mo_longest mo_shift mo_pull mo_hasUnderlay mo_bound mo_pointX mo_pointY mo_points mo_crossing mo_crossings mo_commands mo_kind mo_byX mo_byY mo_fieldOf mo_needleX mo_needleY mo_rowY x1 = some (R_mo_pointX, R_mo_pointY, R_mo_points, R_mo_crossing, R_mo_crossings, R_mo_commands, R_mo_kind, R_mo_byX, R_mo_byY, R_mo_fieldOf, R_mo_needleX, R_mo_needleY, R_mo_rowY) → W p l e rmX7_sews s m args below meth c H locs 0 0 Q (F0 m 98 ls []) := by
    intro mo_pointX mo_pointY mo_points mo_crossing mo_crossings mo_commands mo_kind mo_byX mo_byY mo_fieldOf mo_needleX mo_needleY mo_rowY x1 σ H locs hH h_mo h_mo_colour h_mo_isColumn h_mo_corners h_mo_cornerX h_mo_cornerY h_mo_density h_mo_longest h_mo_shift h_mo_pull h_mo_hasUnderlay h_mo_pointX h_mo_pointY h_mo_crossing h_mo_kind h_mo_byX h_mo_byY h_mo_fieldOf hbg ls hl hf
    unfold f_X7_sews_98 at hf
    refine lv_iconst (v := zI 1) hx hb dX7_sews_98 (by decide +kernel) ?_
    refine lv_istore (lv' := [(4, .int (zI 1)), (0, .ref (ad 19)), (1, .int (zI x1))]) hx hb dX7_sews_99 hl (by decide) rfl (fun ls hl => ?_)
    obtain ⟨w33, w34, w35, w36, w37, w38, w39, w40, k32, hf⟩ := zb8_some hf
    refine L101 mo_pointX mo_pointY mo_points mo_crossing mo_crossings mo_rowY x1 zFU 1 mo_commands mo_kind mo_byX mo_byY mo_fieldOf mo_needleX mo_needleY w33 w34 w35 w36 w37 w38 w39 w40 k32 _ _ _ hH h_mo h_mo_colour h_mo_isColumn h_mo_corners h_mo_cornerX h_mo_cornerY h_mo_density h_mo_longest h_mo_shift h_mo_pull h_mo_hasUnderlay h_mo_pointX h_mo_pointY h_mo_crossing h_mo_kind h_mo_byX h_mo_byY h_mo_fieldOf hbg _ (lv_sub hl [1, 2, 0] rfl) (fun σ41 Hσ41 lσ41 hH h_mo h_mo_colour h_mo_isColumn h_mo_corners h_mo_cornerX h_mo_cornerY h_mo_density h_mo_longest h_mo_shift h_mo_pull h_mo_hasUnderlay h_mo_pointX h_mo_pointY h_mo_crossing h_mo_kind h_mo_byX h_mo_byY h_mo_fieldOf hbg ls hl => ?_)
    cases hf
    exact zretv hx hb hr hlocks hQ hH ⟨h_mo, h_mo_pointX, h_mo_pointY, h_mo_crossing, h_mo_kind, h_mo_byX, h_mo_byY, h_mo_fieldOf, hbg⟩ dX7_sews_188
  have J66 : ∀ (mo_pointX : Int → Int) (mo_pointY : Int → Int) (mo_points : Int) (mo_crossing : Int → Int) (mo_crossings : Int) (mo_commands : Int) (mo_kind : Int → Int) (mo_byX : Int → Int) (mo_byY : Int → Int) (mo_fieldOf : Int → Int) (mo_needleX : Int) (mo_needleY : Int) (mo_rowY : Int) (x1 : Int) (x3 : Int) (σ : Nat → va_E) (H : Heap) (locs : List Loc) (hH : zH D ad N (zFr ad N s.heap.size) s.heap σ H locs) (h_mo : σ 19 = oC_mo ad mo_fields mo_bound mo_points mo_crossings mo_isKnown mo_commands mo_needleX mo_needleY mo_hasFile mo_format mo_length mo_heads mo_late mo_ran mo_program mo_thrown mo_rowY mo_stitches) (h_mo_colour : σ 20 = .inl (cI, 8, .inl (zA mo_colour))) (h_mo_isColumn : σ 22 = .inl (cZ, 8, .inl (zA mo_isColumn))) (h_mo_corners : σ 23 = .inl (cI, 8, .inl (zA mo_corners))) (h_mo_cornerX : σ 24 = .inl (cI, 64, .inl (zA mo_cornerX))) (h_mo_cornerY : σ 25 = .inl (cI, 64, .inl (zA mo_cornerY))) (h_mo_density : σ 26 = .inl (cI, 8, .inl (zA mo_density))) (h_mo_longest : σ 27 = .inl (cI, 8, .inl (zA mo_longest))) (h_mo_shift : σ 28 = .inl (cI, 8, .inl (zA mo_shift))) (h_mo_pull : σ 29 = .inl (cI, 8, .inl (zA mo_pull))) (h_mo_hasUnderlay : σ 30 = .inl (cZ, 8, .inl (zA mo_hasUnderlay))) (h_mo_pointX : σ 31 = .inl (cI, 4096, .inl (zA mo_pointX))) (h_mo_pointY : σ 32 = .inl (cI, 4096, .inl (zA mo_pointY))) (h_mo_crossing : σ 33 = .inl (cI, 8, .inl (zA mo_crossing))) (h_mo_kind : σ 34 = .inl (cI, 20000, .inl (zA mo_kind))) (h_mo_byX : σ 35 = .inl (cI, 20000, .inl (zA mo_byX))) (h_mo_byY : σ 36 = .inl (cI, 20000, .inl (zA mo_byY))) (h_mo_fieldOf : σ 37 = .inl (cI, 20000, .inl (zA mo_fieldOf))) (hbg : ∀ i : Nat, i ≠ 19 → i ≠ 31 → i ≠ 32 → i ≠ 33 → i ≠ 34 → i ≠ 35 → i ≠ 36 → i ≠ 37 → σ i = σ0 i) (ls : Array Slot) (hl : lv_has ls 7 [(0, .ref (ad 19)), (1, .int (zI x1)), (3, .int (zI x3))]), f_X7_sews_66 mo_colour mo_isColumn mo_corners mo_cornerX mo_cornerY mo_density mo_longest mo_shift mo_pull mo_hasUnderlay mo_bound mo_pointX mo_pointY mo_points mo_crossing mo_crossings mo_commands mo_kind mo_byX mo_byY mo_fieldOf mo_needleX mo_needleY mo_rowY x1 x3 = some (R_mo_pointX, R_mo_pointY, R_mo_points, R_mo_crossing, R_mo_crossings, R_mo_commands, R_mo_kind, R_mo_byX, R_mo_byY, R_mo_fieldOf, R_mo_needleX, R_mo_needleY, R_mo_rowY) → W p l e rmX7_sews s m args below meth c H locs 0 0 Q (F0 m 66 ls []) := by
    intro mo_pointX mo_pointY mo_points mo_crossing mo_crossings mo_commands mo_kind mo_byX mo_byY mo_fieldOf mo_needleX mo_needleY mo_rowY x1 x3 σ H locs hH h_mo h_mo_colour h_mo_isColumn h_mo_corners h_mo_cornerX h_mo_cornerY h_mo_density h_mo_longest h_mo_shift h_mo_pull h_mo_hasUnderlay h_mo_pointX h_mo_pointY h_mo_crossing h_mo_kind h_mo_byX h_mo_byY h_mo_fieldOf hbg ls hl hf
    unfold f_X7_sews_66 at hf
    refine lv_iload_n hx hb dX7_sews_66 rfl (lv_at hl 2 rfl) ?_
    obtain ⟨k42, hf⟩ := zck_some hf
    refine lz_if_le (tgt := 98) hx hb k42 dX7_sews_67 (by decide) (fun c43 => ?_) (fun c43 => ?_)
    · replace hf := (if_pos c43).symm.trans hf
      exact J98 mo_pointX mo_pointY mo_points mo_crossing mo_crossings mo_commands mo_kind mo_byX mo_byY mo_fieldOf mo_needleX mo_needleY mo_rowY x1 _ _ _ hH h_mo h_mo_colour h_mo_isColumn h_mo_corners h_mo_cornerX h_mo_cornerY h_mo_density h_mo_longest h_mo_shift h_mo_pull h_mo_hasUnderlay h_mo_pointX h_mo_pointY h_mo_crossing h_mo_kind h_mo_byX h_mo_byY h_mo_fieldOf hbg _ (lv_sub hl [0, 1] rfl) hf
    · replace hf := (if_neg c43).symm.trans hf
      refine lv_aload_n hx hb dX7_sews_70 rfl (lv_at hl 0 rfl) ?_
      refine lv_iconst (v := zI 1) hx hb dX7_sews_71 (by decide +kernel) ?_
      refine lv_aload_n hx hb dX7_sews_72 rfl (lv_at hl 0 rfl) ?_
      refine zget hx hb inlX7 rfl 13 rfl zk_t4_126 hts hown hK hH hk_mo h_mo rfl dX7_sews_73 ?_
      refine lv_iconst (v := zI 0) hx hb dX7_sews_76 (by decide +kernel) ?_
      refine ziald hx hb hK hH hk_mo_pointX 0 h_mo_pointX rfl (by decide) rfl dX7_sews_77 ?_
      refine lv_aload_n hx hb dX7_sews_78 rfl (lv_at hl 0 rfl) ?_
      refine zget hx hb inlX7 rfl 24 rfl zk_t4_137 hts hown hK hH hk_mo h_mo rfl dX7_sews_79 ?_
      refine lz_isub hx hb dX7_sews_82 ?_
      refine lv_aload_n hx hb dX7_sews_83 rfl (lv_at hl 0 rfl) ?_
      refine zget hx hb inlX7 rfl 14 rfl zk_t4_127 hts hown hK hH hk_mo h_mo rfl dX7_sews_84 ?_
      refine lv_iconst (v := zI 0) hx hb dX7_sews_87 (by decide +kernel) ?_
      refine ziald hx hb hK hH hk_mo_pointY 0 h_mo_pointY rfl (by decide) rfl dX7_sews_88 ?_
      refine lv_aload_n hx hb dX7_sews_89 rfl (lv_at hl 0 rfl) ?_
      refine zget hx hb inlX7 rfl 25 rfl zk_t4_138 hts hown hK hH hk_mo h_mo rfl dX7_sews_90 ?_
      refine lz_isub hx hb dX7_sews_93 ?_
      refine lv_iload_n hx hb dX7_sews_94 rfl (lv_at hl 1 rfl) ?_
      obtain ⟨u44, a45, a46, a47, a48, u49, u50, k51, hf⟩ := zb7_some hf
      refine zcVv (C := RX7) (As := [.int (zI 1), .int (zI ((mo_pointX 0) - mo_needleX)), .int (zI ((mo_pointY 0) - mo_needleY)), .int (zI x1)]) (rest := []) hx hb hml hown hts hl.1 hK hH hA (c_X7_command hI hN  h_mo h_mo_kind h_mo_byX h_mo_byY h_mo_fieldOf k51) zk_t5_99 zk_t5_101 zk_s3_11 zk_t1_6 zk_t5_102 hd_X7_command rfl ⟨rfl, rfl, Nat.le_of_ble_eq_true rfl, Nat.le_of_ble_eq_true rfl⟩ ⟨Nat.zero_le _, Nat.zero_le _⟩ hk_mo h_mo rfl rfl rfl (Nat.le_of_ble_eq_true rfl) dX7_sews_95 (fun σ52 Hσ52 lσ52 hp hH => ?_)
      obtain ⟨h_mo, h_mo_kind, h_mo_byX, h_mo_byY, h_mo_fieldOf, hn⟩ := hp
      have h_mo_colour := (hn 20 (by decide) (by decide) (by decide) (by decide) (by decide)).trans h_mo_colour
      have h_mo_isColumn := (hn 22 (by decide) (by decide) (by decide) (by decide) (by decide)).trans h_mo_isColumn
      have h_mo_corners := (hn 23 (by decide) (by decide) (by decide) (by decide) (by decide)).trans h_mo_corners
      have h_mo_cornerX := (hn 24 (by decide) (by decide) (by decide) (by decide) (by decide)).trans h_mo_cornerX
      have h_mo_cornerY := (hn 25 (by decide) (by decide) (by decide) (by decide) (by decide)).trans h_mo_cornerY
      have h_mo_density := (hn 26 (by decide) (by decide) (by decide) (by decide) (by decide)).trans h_mo_density
      have h_mo_longest := (hn 27 (by decide) (by decide) (by decide) (by decide) (by decide)).trans h_mo_longest
      have h_mo_shift := (hn 28 (by decide) (by decide) (by decide) (by decide) (by decide)).trans h_mo_shift
      have h_mo_pull := (hn 29 (by decide) (by decide) (by decide) (by decide) (by decide)).trans h_mo_pull
      have h_mo_hasUnderlay := (hn 30 (by decide) (by decide) (by decide) (by decide) (by decide)).trans h_mo_hasUnderlay
      have h_mo_pointX := (hn 31 (by decide) (by decide) (by decide) (by decide) (by decide)).trans h_mo_pointX
      have h_mo_pointY := (hn 32 (by decide) (by decide) (by decide) (by decide) (by decide)).trans h_mo_pointY
      have h_mo_crossing := (hn 33 (by decide) (by decide) (by decide) (by decide) (by decide)).trans h_mo_crossing
      have hbg : ∀ i : Nat, i ≠ 19 → i ≠ 31 → i ≠ 32 → i ≠ 33 → i ≠ 34 → i ≠ 35 → i ≠ 36 → i ≠ 37 → σ52 i = σ0 i := fun i a0 a1 a2 a3 a4 a5 a6 a7 => (hn i a0 a4 a5 a6 a7).trans (hbg i a0 a1 a2 a3 a4 a5 a6 a7)
      exact J98 mo_pointX mo_pointY mo_points mo_crossing mo_crossings u44 a45 a46 a47 a48 u49 u50 mo_rowY x1 _ _ _ hH h_mo h_mo_colour h_mo_isColumn h_mo_corners h_mo_cornerX h_mo_cornerY h_mo_density h_mo_longest h_mo_shift h_mo_pull h_mo_hasUnderlay h_mo_pointX h_mo_pointY h_mo_crossing h_mo_kind h_mo_byX h_mo_byY h_mo_fieldOf hbg _ (lv_sub hl [0, 1] rfl) hf
  have J28 : ∀ (mo_pointX : Int → Int) (mo_pointY : Int → Int) (mo_points : Int) (mo_crossing : Int → Int) (mo_crossings : Int) (mo_commands : Int) (mo_kind : Int → Int) (mo_byX : Int → Int) (mo_byY : Int → Int) (mo_fieldOf : Int → Int) (mo_needleX : Int) (mo_needleY : Int) (mo_rowY : Int) (x1 : Int) (σ : Nat → va_E) (H : Heap) (locs : List Loc) (hH : zH D ad N (zFr ad N s.heap.size) s.heap σ H locs) (h_mo : σ 19 = oC_mo ad mo_fields mo_bound mo_points mo_crossings mo_isKnown mo_commands mo_needleX mo_needleY mo_hasFile mo_format mo_length mo_heads mo_late mo_ran mo_program mo_thrown mo_rowY mo_stitches) (h_mo_colour : σ 20 = .inl (cI, 8, .inl (zA mo_colour))) (h_mo_isColumn : σ 22 = .inl (cZ, 8, .inl (zA mo_isColumn))) (h_mo_corners : σ 23 = .inl (cI, 8, .inl (zA mo_corners))) (h_mo_cornerX : σ 24 = .inl (cI, 64, .inl (zA mo_cornerX))) (h_mo_cornerY : σ 25 = .inl (cI, 64, .inl (zA mo_cornerY))) (h_mo_density : σ 26 = .inl (cI, 8, .inl (zA mo_density))) (h_mo_longest : σ 27 = .inl (cI, 8, .inl (zA mo_longest))) (h_mo_shift : σ 28 = .inl (cI, 8, .inl (zA mo_shift))) (h_mo_pull : σ 29 = .inl (cI, 8, .inl (zA mo_pull))) (h_mo_hasUnderlay : σ 30 = .inl (cZ, 8, .inl (zA mo_hasUnderlay))) (h_mo_pointX : σ 31 = .inl (cI, 4096, .inl (zA mo_pointX))) (h_mo_pointY : σ 32 = .inl (cI, 4096, .inl (zA mo_pointY))) (h_mo_crossing : σ 33 = .inl (cI, 8, .inl (zA mo_crossing))) (h_mo_kind : σ 34 = .inl (cI, 20000, .inl (zA mo_kind))) (h_mo_byX : σ 35 = .inl (cI, 20000, .inl (zA mo_byX))) (h_mo_byY : σ 36 = .inl (cI, 20000, .inl (zA mo_byY))) (h_mo_fieldOf : σ 37 = .inl (cI, 20000, .inl (zA mo_fieldOf))) (hbg : ∀ i : Nat, i ≠ 19 → i ≠ 31 → i ≠ 32 → i ≠ 33 → i ≠ 34 → i ≠ 35 → i ≠ 36 → i ≠ 37 → σ i = σ0 i) (ls : Array Slot) (hl : lv_has ls 7 [(0, .ref (ad 19)), (1, .int (zI x1))]), f_X7_sews_28 mo_colour mo_isColumn mo_corners mo_cornerX mo_cornerY mo_density mo_longest mo_shift mo_pull mo_hasUnderlay mo_bound mo_pointX mo_pointY mo_points mo_crossing mo_crossings mo_commands mo_kind mo_byX mo_byY mo_fieldOf mo_needleX mo_needleY mo_rowY x1 = some (R_mo_pointX, R_mo_pointY, R_mo_points, R_mo_crossing, R_mo_crossings, R_mo_commands, R_mo_kind, R_mo_byX, R_mo_byY, R_mo_fieldOf, R_mo_needleX, R_mo_needleY, R_mo_rowY) → W p l e rmX7_sews s m args below meth c H locs 0 0 Q (F0 m 28 ls []) := by
    intro mo_pointX mo_pointY mo_points mo_crossing mo_crossings mo_commands mo_kind mo_byX mo_byY mo_fieldOf mo_needleX mo_needleY mo_rowY x1 σ H locs hH h_mo h_mo_colour h_mo_isColumn h_mo_corners h_mo_cornerX h_mo_cornerY h_mo_density h_mo_longest h_mo_shift h_mo_pull h_mo_hasUnderlay h_mo_pointX h_mo_pointY h_mo_crossing h_mo_kind h_mo_byX h_mo_byY h_mo_fieldOf hbg ls hl hf
    unfold f_X7_sews_28 at hf
    refine lv_aload_n hx hb dX7_sews_28 rfl (lv_at hl 0 rfl) ?_
    refine lv_aload_n hx hb dX7_sews_29 rfl (lv_at hl 0 rfl) ?_
    refine zget hx hb inlX7 rfl 13 rfl zk_t4_126 hts hown hK hH hk_mo h_mo rfl dX7_sews_30 ?_
    refine lv_iconst (v := zI 0) hx hb dX7_sews_33 (by decide +kernel) ?_
    refine ziald hx hb hK hH hk_mo_pointX 0 h_mo_pointX rfl (by decide) rfl dX7_sews_34 ?_
    refine lv_aload_n hx hb dX7_sews_35 rfl (lv_at hl 0 rfl) ?_
    refine zget hx hb inlX7 rfl 14 rfl zk_t4_127 hts hown hK hH hk_mo h_mo rfl dX7_sews_36 ?_
    refine lv_iconst (v := zI 0) hx hb dX7_sews_39 (by decide +kernel) ?_
    refine ziald hx hb hK hH hk_mo_pointY 0 h_mo_pointY rfl (by decide) rfl dX7_sews_40 ?_
    obtain ⟨r53, k54, hf⟩ := zb1_some hf
    refine zcVi (C := RX7) (As := [.int (zI (mo_pointX 0)), .int (zI (mo_pointY 0))]) (rest := []) hx hb hml hown hts hl.1 hK hH hA (c_X7_squareTo hI hN  h_mo k54) zk_t5_91 zk_t5_93 zk_s3_9 zk_t1_6 zk_t5_94 hd_X7_squareTo rfl ⟨rfl, rfl, Nat.le_of_ble_eq_true rfl, Nat.le_of_ble_eq_true rfl⟩ ⟨Nat.zero_le _, Nat.zero_le _⟩ hk_mo h_mo rfl rfl rfl (Nat.le_of_ble_eq_true rfl) dX7_sews_41 (fun q56 σ55 Hσ55 lσ55 hp hH => ?_)
    obtain ⟨hr1, hs1⟩ := hp; subst hr1; rw [hs1] at hH
    refine lv_istore_n (lv' := [(3, .int (zI r53)), (0, .ref (ad 19)), (1, .int (zI x1))]) hx hb dX7_sews_44 rfl hl (by decide) rfl (fun ls hl => ?_)
    refine lv_iload_n hx hb dX7_sews_45 rfl (lv_at hl 0 rfl) ?_
    refine lv_aload_n hx hb dX7_sews_46 rfl (lv_at hl 1 rfl) ?_
    refine zget hx hb inlX7 rfl 12 rfl zk_t4_125 hts hown hK hH hk_mo h_mo rfl dX7_sews_47 ?_
    refine lv_aload_n hx hb dX7_sews_50 rfl (lv_at hl 1 rfl) ?_
    refine zget hx hb inlX7 rfl 12 rfl zk_t4_125 hts hown hK hH hk_mo h_mo rfl dX7_sews_51 ?_
    refine lz_imul hx hb dX7_sews_54 ?_
    obtain ⟨k57, hf⟩ := zck_some hf
    refine lz_icmp_le (tgt := 66) hx hb k57 dX7_sews_55 (by decide) (fun c58 => ?_) (fun c58 => ?_)
    · replace hf := (if_pos c58).symm.trans hf
      exact J66 mo_pointX mo_pointY mo_points mo_crossing mo_crossings mo_commands mo_kind mo_byX mo_byY mo_fieldOf mo_needleX mo_needleY mo_rowY x1 r53 _ _ _ hH h_mo h_mo_colour h_mo_isColumn h_mo_corners h_mo_cornerX h_mo_cornerY h_mo_density h_mo_longest h_mo_shift h_mo_pull h_mo_hasUnderlay h_mo_pointX h_mo_pointY h_mo_crossing h_mo_kind h_mo_byX h_mo_byY h_mo_fieldOf hbg _ (lv_sub hl [1, 2, 0] rfl) hf
    · replace hf := (if_neg c58).symm.trans hf
      refine lv_aload_n hx hb dX7_sews_58 rfl (lv_at hl 1 rfl) ?_
      refine lv_iconst (v := zI 2) hx hb dX7_sews_59 (by decide +kernel) ?_
      refine lv_iconst (v := zI 0) hx hb dX7_sews_60 (by decide +kernel) ?_
      refine lv_iconst (v := zI 0) hx hb dX7_sews_61 (by decide +kernel) ?_
      refine lv_iconst (v := zI (-1)) hx hb dX7_sews_62 (by decide +kernel) ?_
      obtain ⟨u59, a60, a61, a62, a63, u64, u65, k66, hf⟩ := zb7_some hf
      refine zcVv (C := RX7) (As := [.int (zI 2), .int (zI 0), .int (zI 0), .int (zI (-1))]) (rest := []) hx hb hml hown hts hl.1 hK hH hA (c_X7_command hI hN  h_mo h_mo_kind h_mo_byX h_mo_byY h_mo_fieldOf k66) zk_t5_99 zk_t5_101 zk_s3_11 zk_t1_6 zk_t5_102 hd_X7_command rfl ⟨rfl, rfl, Nat.le_of_ble_eq_true rfl, Nat.le_of_ble_eq_true rfl⟩ ⟨Nat.zero_le _, Nat.zero_le _⟩ hk_mo h_mo rfl rfl rfl (Nat.le_of_ble_eq_true rfl) dX7_sews_63 (fun σ67 Hσ67 lσ67 hp hH => ?_)
      obtain ⟨h_mo, h_mo_kind, h_mo_byX, h_mo_byY, h_mo_fieldOf, hn⟩ := hp
      have h_mo_colour := (hn 20 (by decide) (by decide) (by decide) (by decide) (by decide)).trans h_mo_colour
      have h_mo_isColumn := (hn 22 (by decide) (by decide) (by decide) (by decide) (by decide)).trans h_mo_isColumn
      have h_mo_corners := (hn 23 (by decide) (by decide) (by decide) (by decide) (by decide)).trans h_mo_corners
      have h_mo_cornerX := (hn 24 (by decide) (by decide) (by decide) (by decide) (by decide)).trans h_mo_cornerX
      have h_mo_cornerY := (hn 25 (by decide) (by decide) (by decide) (by decide) (by decide)).trans h_mo_cornerY
      have h_mo_density := (hn 26 (by decide) (by decide) (by decide) (by decide) (by decide)).trans h_mo_density
      have h_mo_longest := (hn 27 (by decide) (by decide) (by decide) (by decide) (by decide)).trans h_mo_longest
      have h_mo_shift := (hn 28 (by decide) (by decide) (by decide) (by decide) (by decide)).trans h_mo_shift
      have h_mo_pull := (hn 29 (by decide) (by decide) (by decide) (by decide) (by decide)).trans h_mo_pull
      have h_mo_hasUnderlay := (hn 30 (by decide) (by decide) (by decide) (by decide) (by decide)).trans h_mo_hasUnderlay
      have h_mo_pointX := (hn 31 (by decide) (by decide) (by decide) (by decide) (by decide)).trans h_mo_pointX
      have h_mo_pointY := (hn 32 (by decide) (by decide) (by decide) (by decide) (by decide)).trans h_mo_pointY
      have h_mo_crossing := (hn 33 (by decide) (by decide) (by decide) (by decide) (by decide)).trans h_mo_crossing
      have hbg : ∀ i : Nat, i ≠ 19 → i ≠ 31 → i ≠ 32 → i ≠ 33 → i ≠ 34 → i ≠ 35 → i ≠ 36 → i ≠ 37 → σ67 i = σ0 i := fun i a0 a1 a2 a3 a4 a5 a6 a7 => (hn i a0 a4 a5 a6 a7).trans (hbg i a0 a1 a2 a3 a4 a5 a6 a7)
      exact J66 mo_pointX mo_pointY mo_points mo_crossing mo_crossings u59 a60 a61 a62 a63 u64 u65 mo_rowY x1 r53 _ _ _ hH h_mo h_mo_colour h_mo_isColumn h_mo_corners h_mo_cornerX h_mo_cornerY h_mo_density h_mo_longest h_mo_shift h_mo_pull h_mo_hasUnderlay h_mo_pointX h_mo_pointY h_mo_crossing h_mo_kind h_mo_byX h_mo_byY h_mo_fieldOf hbg _ (lv_sub hl [1, 2, 0] rfl) hf
  unfold f_X7_sews at hf
  refine lv_aload_n hx hb dX7_sews_0 rfl (lv_at hl 0 rfl) ?_
  refine lv_iload_n hx hb dX7_sews_1 rfl (lv_at hl 1 rfl) ?_
  obtain ⟨a68, a69, u70, a71, u72, u73, k74, hf⟩ := zb6_some hf
  refine zcVv (C := RX7) (As := [.int (zI p1)]) (rest := []) hx hb hml hown hts hl.1 hK hH hA (c_X7_finds hI hN  h_mo h_mo_isColumn h_mo_corners h_mo_cornerX h_mo_cornerY h_mo_density h_mo_longest h_mo_shift h_mo_pull h_mo_hasUnderlay h_mo_pointX h_mo_pointY h_mo_crossing k74) zk_t5_51 zk_t5_53 zk_s3_2 zk_t1_6 zk_t5_54 hd_X7_finds rfl ⟨rfl, rfl, Nat.le_of_ble_eq_true rfl, Nat.le_of_ble_eq_true rfl⟩ ⟨Nat.zero_le _, Nat.zero_le _⟩ hk_mo h_mo rfl rfl rfl (Nat.le_of_ble_eq_true rfl) dX7_sews_2 (fun σ75 Hσ75 lσ75 hp hH => ?_)
  obtain ⟨h_mo, h_mo_pointX, h_mo_pointY, h_mo_crossing, hn⟩ := hp
  have h_mo_colour := (hn 20 (by decide) (by decide) (by decide) (by decide)).trans h_mo_colour
  have h_mo_isColumn := (hn 22 (by decide) (by decide) (by decide) (by decide)).trans h_mo_isColumn
  have h_mo_corners := (hn 23 (by decide) (by decide) (by decide) (by decide)).trans h_mo_corners
  have h_mo_cornerX := (hn 24 (by decide) (by decide) (by decide) (by decide)).trans h_mo_cornerX
  have h_mo_cornerY := (hn 25 (by decide) (by decide) (by decide) (by decide)).trans h_mo_cornerY
  have h_mo_density := (hn 26 (by decide) (by decide) (by decide) (by decide)).trans h_mo_density
  have h_mo_longest := (hn 27 (by decide) (by decide) (by decide) (by decide)).trans h_mo_longest
  have h_mo_shift := (hn 28 (by decide) (by decide) (by decide) (by decide)).trans h_mo_shift
  have h_mo_pull := (hn 29 (by decide) (by decide) (by decide) (by decide)).trans h_mo_pull
  have h_mo_hasUnderlay := (hn 30 (by decide) (by decide) (by decide) (by decide)).trans h_mo_hasUnderlay
  have h_mo_kind := (hn 34 (by decide) (by decide) (by decide) (by decide)).trans h_mo_kind
  have h_mo_byX := (hn 35 (by decide) (by decide) (by decide) (by decide)).trans h_mo_byX
  have h_mo_byY := (hn 36 (by decide) (by decide) (by decide) (by decide)).trans h_mo_byY
  have h_mo_fieldOf := (hn 37 (by decide) (by decide) (by decide) (by decide)).trans h_mo_fieldOf
  have hbg : ∀ i : Nat, i ≠ 19 → i ≠ 31 → i ≠ 32 → i ≠ 33 → i ≠ 34 → i ≠ 35 → i ≠ 36 → i ≠ 37 → σ75 i = σ0 i := fun i a0 a1 a2 a3 a4 a5 a6 a7 => (hn i a0 a1 a2 a3).trans (hbg i a0 a1 a2 a3 a4 a5 a6 a7)
  refine lv_iload_n hx hb dX7_sews_5 rfl (lv_at hl 2 rfl) ?_
  refine lv_iconst (v := zI (-1)) hx hb dX7_sews_6 (by decide +kernel) ?_
  obtain ⟨k76, hf⟩ := zck_some hf
  refine lz_icmp_eq (tgt := 28) hx hb ⟨k76, by decide⟩ dX7_sews_7 (by decide) (fun c77 => ?_) (fun c77 => ?_)
  · replace hf := (if_pos c77).symm.trans hf
    exact J28 a68 a69 u70 a71 u72 mo_commands mo_kind mo_byX mo_byY mo_fieldOf mo_needleX mo_needleY u73 p1 _ _ _ hH h_mo h_mo_colour h_mo_isColumn h_mo_corners h_mo_cornerX h_mo_cornerY h_mo_density h_mo_longest h_mo_shift h_mo_pull h_mo_hasUnderlay h_mo_pointX h_mo_pointY h_mo_crossing h_mo_kind h_mo_byX h_mo_byY h_mo_fieldOf hbg _ (lv_sub hl [0, 1] rfl) hf
  · replace hf := (if_neg c77).symm.trans hf
    refine lv_iload_n hx hb dX7_sews_10 rfl (lv_at hl 2 rfl) ?_
    refine lv_aload_n hx hb dX7_sews_11 rfl (lv_at hl 0 rfl) ?_
    refine zget hx hb inlX7 rfl 1 rfl zk_t4_114 hts hown hK hH hk_mo h_mo rfl dX7_sews_12 ?_
    refine lv_iload_n hx hb dX7_sews_15 rfl (lv_at hl 1 rfl) ?_
    obtain ⟨k78, hf⟩ := zck_some hf
    refine ziald hx hb hK hH hk_mo_colour 0 h_mo_colour rfl k78 rfl dX7_sews_16 ?_
    obtain ⟨k79, hf⟩ := zck_some hf
    refine lz_icmp_eq (tgt := 28) hx hb k79 dX7_sews_17 (by decide) (fun c80 => ?_) (fun c80 => ?_)
    · replace hf := (if_pos c80).symm.trans hf
      exact J28 a68 a69 u70 a71 u72 mo_commands mo_kind mo_byX mo_byY mo_fieldOf mo_needleX mo_needleY u73 p1 _ _ _ hH h_mo h_mo_colour h_mo_isColumn h_mo_corners h_mo_cornerX h_mo_cornerY h_mo_density h_mo_longest h_mo_shift h_mo_pull h_mo_hasUnderlay h_mo_pointX h_mo_pointY h_mo_crossing h_mo_kind h_mo_byX h_mo_byY h_mo_fieldOf hbg _ (lv_sub hl [0, 1] rfl) hf
    · replace hf := (if_neg c80).symm.trans hf
      refine lv_aload_n hx hb dX7_sews_20 rfl (lv_at hl 0 rfl) ?_
      refine lv_iconst (v := zI 3) hx hb dX7_sews_21 (by decide +kernel) ?_
      refine lv_iconst (v := zI 0) hx hb dX7_sews_22 (by decide +kernel) ?_
      refine lv_iconst (v := zI 0) hx hb dX7_sews_23 (by decide +kernel) ?_
      refine lv_iconst (v := zI (-1)) hx hb dX7_sews_24 (by decide +kernel) ?_
      obtain ⟨u81, a82, a83, a84, a85, u86, u87, k88, hf⟩ := zb7_some hf
      refine zcVv (C := RX7) (As := [.int (zI 3), .int (zI 0), .int (zI 0), .int (zI (-1))]) (rest := []) hx hb hml hown hts hl.1 hK hH hA (c_X7_command hI hN  h_mo h_mo_kind h_mo_byX h_mo_byY h_mo_fieldOf k88) zk_t5_99 zk_t5_101 zk_s3_11 zk_t1_6 zk_t5_102 hd_X7_command rfl ⟨rfl, rfl, Nat.le_of_ble_eq_true rfl, Nat.le_of_ble_eq_true rfl⟩ ⟨Nat.zero_le _, Nat.zero_le _⟩ hk_mo h_mo rfl rfl rfl (Nat.le_of_ble_eq_true rfl) dX7_sews_25 (fun σ89 Hσ89 lσ89 hp hH => ?_)
      obtain ⟨h_mo, h_mo_kind, h_mo_byX, h_mo_byY, h_mo_fieldOf, hn⟩ := hp
      have h_mo_colour := (hn 20 (by decide) (by decide) (by decide) (by decide) (by decide)).trans h_mo_colour
      have h_mo_isColumn := (hn 22 (by decide) (by decide) (by decide) (by decide) (by decide)).trans h_mo_isColumn
      have h_mo_corners := (hn 23 (by decide) (by decide) (by decide) (by decide) (by decide)).trans h_mo_corners
      have h_mo_cornerX := (hn 24 (by decide) (by decide) (by decide) (by decide) (by decide)).trans h_mo_cornerX
      have h_mo_cornerY := (hn 25 (by decide) (by decide) (by decide) (by decide) (by decide)).trans h_mo_cornerY
      have h_mo_density := (hn 26 (by decide) (by decide) (by decide) (by decide) (by decide)).trans h_mo_density
      have h_mo_longest := (hn 27 (by decide) (by decide) (by decide) (by decide) (by decide)).trans h_mo_longest
      have h_mo_shift := (hn 28 (by decide) (by decide) (by decide) (by decide) (by decide)).trans h_mo_shift
      have h_mo_pull := (hn 29 (by decide) (by decide) (by decide) (by decide) (by decide)).trans h_mo_pull
      have h_mo_hasUnderlay := (hn 30 (by decide) (by decide) (by decide) (by decide) (by decide)).trans h_mo_hasUnderlay
      have h_mo_pointX := (hn 31 (by decide) (by decide) (by decide) (by decide) (by decide)).trans h_mo_pointX
      have h_mo_pointY := (hn 32 (by decide) (by decide) (by decide) (by decide) (by decide)).trans h_mo_pointY
      have h_mo_crossing := (hn 33 (by decide) (by decide) (by decide) (by decide) (by decide)).trans h_mo_crossing
      have hbg : ∀ i : Nat, i ≠ 19 → i ≠ 31 → i ≠ 32 → i ≠ 33 → i ≠ 34 → i ≠ 35 → i ≠ 36 → i ≠ 37 → σ89 i = σ0 i := fun i a0 a1 a2 a3 a4 a5 a6 a7 => (hn i a0 a4 a5 a6 a7).trans (hbg i a0 a1 a2 a3 a4 a5 a6 a7)
      exact J28 a68 a69 u70 a71 u72 u81 a82 a83 a84 a85 u86 u87 u73 p1 _ _ _ hH h_mo h_mo_colour h_mo_isColumn h_mo_corners h_mo_cornerX h_mo_cornerY h_mo_density h_mo_longest h_mo_shift h_mo_pull h_mo_hasUnderlay h_mo_pointX h_mo_pointY h_mo_crossing h_mo_kind h_mo_byX h_mo_byY h_mo_fieldOf hbg _ (lv_sub hl [0, 1] rfl) hf
abbrev rmX7_reckons : Room := { frames := 5, cells := 0, slots := 0, locals := 126 }
theorem hd_X7_reckons : yX7_reckons.cls = RX7 ∧ yX7_reckons.cls ≠ "java/lang/invoke/MethodHandle" ∧ yX7_reckons.cls ≠ "java/lang/invoke/VarHandle" ∧ (parseMethodDescriptor yX7_reckons.desc).map (fun d => d.parameters.length) = some 0 := by decide +kernel
set_option maxHeartbeats 4000000 in
set_option maxRecDepth 100000 in
theorem c_X7_reckons {l : Launch} {D : va_G} {cI cZ cF cL cD : ClassId} {ad : Nat → Nat} {N : Nat} (hI : ∀ i j, i < N → j < N → ad i = ad j → i = j) (hN : 46 ≤ N) {σ0 : Nat → va_E} {sz : Nat} {mo_fields : Int} {mo_colour : Int → Int} {mo_layer : Int → Int} {mo_isColumn : Int → Int} {mo_corners : Int → Int} {mo_cornerX : Int → Int} {mo_cornerY : Int → Int} {mo_density : Int → Int} {mo_longest : Int → Int} {mo_shift : Int → Int} {mo_pull : Int → Int} {mo_hasUnderlay : Int → Int} {mo_bound : Int} {mo_pointX : Int → Int} {mo_pointY : Int → Int} {mo_points : Int} {mo_crossing : Int → Int} {mo_crossings : Int} {mo_isKnown : Int} {mo_commands : Int} {mo_kind : Int → Int} {mo_byX : Int → Int} {mo_byY : Int → Int} {mo_fieldOf : Int → Int} {mo_needleX : Int} {mo_needleY : Int} {mo_isSewn : Int → Int} {mo_hasFile : Int} {mo_format : Int} {mo_length : Int} {mo_heads : Int} {mo_late : Int} {mo_ran : Int} {mo_program : Int} {mo_thrown : Int} {mo_rowY : Int} {mo_stitches : Int} {R_mo_pointX : Int → Int} {R_mo_pointY : Int → Int} {R_mo_points : Int} {R_mo_crossing : Int → Int} {R_mo_crossings : Int} {R_mo_isKnown : Int} {R_mo_commands : Int} {R_mo_kind : Int → Int} {R_mo_byX : Int → Int} {R_mo_byY : Int → Int} {R_mo_fieldOf : Int → Int} {R_mo_needleX : Int} {R_mo_needleY : Int} {R_mo_isSewn : Int → Int} {R_mo_rowY : Int} (h_mo : σ0 19 = oC_mo ad mo_fields mo_bound mo_points mo_crossings mo_isKnown mo_commands mo_needleX mo_needleY mo_hasFile mo_format mo_length mo_heads mo_late mo_ran mo_program mo_thrown mo_rowY mo_stitches) (h_mo_colour : σ0 20 = .inl (cI, 8, .inl (zA mo_colour))) (h_mo_layer : σ0 21 = .inl (cI, 8, .inl (zA mo_layer))) (h_mo_isColumn : σ0 22 = .inl (cZ, 8, .inl (zA mo_isColumn))) (h_mo_corners : σ0 23 = .inl (cI, 8, .inl (zA mo_corners))) (h_mo_cornerX : σ0 24 = .inl (cI, 64, .inl (zA mo_cornerX))) (h_mo_cornerY : σ0 25 = .inl (cI, 64, .inl (zA mo_cornerY))) (h_mo_density : σ0 26 = .inl (cI, 8, .inl (zA mo_density))) (h_mo_longest : σ0 27 = .inl (cI, 8, .inl (zA mo_longest))) (h_mo_shift : σ0 28 = .inl (cI, 8, .inl (zA mo_shift))) (h_mo_pull : σ0 29 = .inl (cI, 8, .inl (zA mo_pull))) (h_mo_hasUnderlay : σ0 30 = .inl (cZ, 8, .inl (zA mo_hasUnderlay))) (h_mo_pointX : σ0 31 = .inl (cI, 4096, .inl (zA mo_pointX))) (h_mo_pointY : σ0 32 = .inl (cI, 4096, .inl (zA mo_pointY))) (h_mo_crossing : σ0 33 = .inl (cI, 8, .inl (zA mo_crossing))) (h_mo_kind : σ0 34 = .inl (cI, 20000, .inl (zA mo_kind))) (h_mo_byX : σ0 35 = .inl (cI, 20000, .inl (zA mo_byX))) (h_mo_byY : σ0 36 = .inl (cI, 20000, .inl (zA mo_byY))) (h_mo_fieldOf : σ0 37 = .inl (cI, 20000, .inl (zA mo_fieldOf))) (h_mo_isSewn : σ0 38 = .inl (cZ, 8, .inl (zA mo_isSewn))) (hf : f_X7_reckons mo_fields mo_colour mo_layer mo_isColumn mo_corners mo_cornerX mo_cornerY mo_density mo_longest mo_shift mo_pull mo_hasUnderlay mo_bound mo_pointX mo_pointY mo_points mo_crossing mo_crossings mo_isKnown mo_commands mo_kind mo_byX mo_byY mo_fieldOf mo_needleX mo_needleY mo_isSewn mo_rowY = some (R_mo_pointX, R_mo_pointY, R_mo_points, R_mo_crossing, R_mo_crossings, R_mo_isKnown, R_mo_commands, R_mo_kind, R_mo_byX, R_mo_byY, R_mo_fieldOf, R_mo_needleX, R_mo_needleY, R_mo_isSewn, R_mo_rowY)) :
    Met l yX7_reckons (Cond.code yX7_reckons cX7_reckons 5 none :: wsL_law) rmX7_reckons (zPre D ad N (zT cI cZ cF cL cD) σ0 sz [.ref (ad 19)]) (zQv D ad N sz (fun σ' => σ' 19 = oC_mo ad mo_fields mo_bound R_mo_points R_mo_crossings R_mo_isKnown R_mo_commands R_mo_needleX R_mo_needleY mo_hasFile mo_format mo_length mo_heads mo_late mo_ran mo_program mo_thrown R_mo_rowY mo_stitches ∧ σ' 31 = .inl (cI, 4096, .inl (zA R_mo_pointX)) ∧ σ' 32 = .inl (cI, 4096, .inl (zA R_mo_pointY)) ∧ σ' 33 = .inl (cI, 8, .inl (zA R_mo_crossing)) ∧ σ' 34 = .inl (cI, 20000, .inl (zA R_mo_kind)) ∧ σ' 35 = .inl (cI, 20000, .inl (zA R_mo_byX)) ∧ σ' 36 = .inl (cI, 20000, .inl (zA R_mo_byY)) ∧ σ' 37 = .inl (cI, 20000, .inl (zA R_mo_fieldOf)) ∧ σ' 38 = .inl (cZ, 8, .inl (zA R_mo_isSewn)) ∧ ∀ i : Nat, i ≠ 19 → i ≠ 31 → i ≠ 32 → i ≠ 33 → i ≠ 34 → i ≠ 35 → i ≠ 36 → i ≠ 37 → i ≠ 38 → σ' i = σ0 i)) 0 0 (zFr ad N sz) := by
  refine zMet hI (plainFor_of_name (by decide)) (Nat.le_of_ble_eq_true rfl) ⟨rfl, rfl⟩ ?_
  intro p e s m args below meth c Q hx hb hr hlocks hml hown hts hK hsz hQ hH hA ls hl
  subst hsz
  have hk_mo : 19 < N := by omega
  have hk_mo_colour : 20 < N := by omega
  have hk_mo_layer : 21 < N := by omega
  have hk_mo_isColumn : 22 < N := by omega
  have hk_mo_corners : 23 < N := by omega
  have hk_mo_cornerX : 24 < N := by omega
  have hk_mo_cornerY : 25 < N := by omega
  have hk_mo_density : 26 < N := by omega
  have hk_mo_longest : 27 < N := by omega
  have hk_mo_shift : 28 < N := by omega
  have hk_mo_pull : 29 < N := by omega
  have hk_mo_hasUnderlay : 30 < N := by omega
  have hk_mo_pointX : 31 < N := by omega
  have hk_mo_pointY : 32 < N := by omega
  have hk_mo_crossing : 33 < N := by omega
  have hk_mo_kind : 34 < N := by omega
  have hk_mo_byX : 35 < N := by omega
  have hk_mo_byY : 36 < N := by omega
  have hk_mo_fieldOf : 37 < N := by omega
  have hk_mo_isSewn : 38 < N := by omega
  have hl : lv_has ls 5 [(0, .ref (ad 19))] := hl
  have hbg : ∀ i : Nat, i ≠ 19 → i ≠ 31 → i ≠ 32 → i ≠ 33 → i ≠ 34 → i ≠ 35 → i ≠ 36 → i ≠ 37 → i ≠ 38 → σ0 i = σ0 i := fun _ _ _ _ _ _ _ _ _ _ => rfl
  have L55 : ∀ (mo_isKnown : Int)  (n : Nat) (x1 : Int) (x2 : Int) (mo_pointX : Int → Int) (mo_pointY : Int → Int) (mo_points : Int) (mo_crossing : Int → Int) (mo_crossings : Int) (mo_commands : Int) (mo_kind : Int → Int) (mo_byX : Int → Int) (mo_byY : Int → Int) (mo_fieldOf : Int → Int) (mo_needleX : Int) (mo_needleY : Int) (mo_isSewn : Int → Int) (mo_rowY : Int) (x1' : Int) (x2' : Int) (mo_pointX' : Int → Int) (mo_pointY' : Int → Int) (mo_points' : Int) (mo_crossing' : Int → Int) (mo_crossings' : Int) (mo_commands' : Int) (mo_kind' : Int → Int) (mo_byX' : Int → Int) (mo_byY' : Int → Int) (mo_fieldOf' : Int → Int) (mo_needleX' : Int) (mo_needleY' : Int) (mo_isSewn' : Int → Int) (mo_rowY' : Int), zlp (fun z => f_X7_reckons_L55 mo_fields mo_colour mo_layer mo_isColumn mo_corners mo_cornerX mo_cornerY mo_density mo_longest mo_shift mo_pull mo_hasUnderlay mo_bound mo_isKnown z.1 z.2.1 z.2.2.1 z.2.2.2.1 z.2.2.2.2.1 z.2.2.2.2.2.1 z.2.2.2.2.2.2.1 z.2.2.2.2.2.2.2.1 z.2.2.2.2.2.2.2.2.1 z.2.2.2.2.2.2.2.2.2.1 z.2.2.2.2.2.2.2.2.2.2.1 z.2.2.2.2.2.2.2.2.2.2.2.1 z.2.2.2.2.2.2.2.2.2.2.2.2.1 z.2.2.2.2.2.2.2.2.2.2.2.2.2.1 z.2.2.2.2.2.2.2.2.2.2.2.2.2.2.1 z.2.2.2.2.2.2.2.2.2.2.2.2.2.2.2) n (x1, x2, mo_pointX, mo_pointY, mo_points, mo_crossing, mo_crossings, mo_commands, mo_kind, mo_byX, mo_byY, mo_fieldOf, mo_needleX, mo_needleY, mo_isSewn, mo_rowY) = some (x1', x2', mo_pointX', mo_pointY', mo_points', mo_crossing', mo_crossings', mo_commands', mo_kind', mo_byX', mo_byY', mo_fieldOf', mo_needleX', mo_needleY', mo_isSewn', mo_rowY') → ∀ (σ : Nat → va_E) (H : Heap) (locs : List Loc) (hH : zH D ad N (zFr ad N s.heap.size) s.heap σ H locs) (h_mo : σ 19 = oC_mo ad mo_fields mo_bound mo_points mo_crossings mo_isKnown mo_commands mo_needleX mo_needleY mo_hasFile mo_format mo_length mo_heads mo_late mo_ran mo_program mo_thrown mo_rowY mo_stitches) (h_mo_colour : σ 20 = .inl (cI, 8, .inl (zA mo_colour))) (h_mo_layer : σ 21 = .inl (cI, 8, .inl (zA mo_layer))) (h_mo_isColumn : σ 22 = .inl (cZ, 8, .inl (zA mo_isColumn))) (h_mo_corners : σ 23 = .inl (cI, 8, .inl (zA mo_corners))) (h_mo_cornerX : σ 24 = .inl (cI, 64, .inl (zA mo_cornerX))) (h_mo_cornerY : σ 25 = .inl (cI, 64, .inl (zA mo_cornerY))) (h_mo_density : σ 26 = .inl (cI, 8, .inl (zA mo_density))) (h_mo_longest : σ 27 = .inl (cI, 8, .inl (zA mo_longest))) (h_mo_shift : σ 28 = .inl (cI, 8, .inl (zA mo_shift))) (h_mo_pull : σ 29 = .inl (cI, 8, .inl (zA mo_pull))) (h_mo_hasUnderlay : σ 30 = .inl (cZ, 8, .inl (zA mo_hasUnderlay))) (h_mo_pointX : σ 31 = .inl (cI, 4096, .inl (zA mo_pointX))) (h_mo_pointY : σ 32 = .inl (cI, 4096, .inl (zA mo_pointY))) (h_mo_crossing : σ 33 = .inl (cI, 8, .inl (zA mo_crossing))) (h_mo_kind : σ 34 = .inl (cI, 20000, .inl (zA mo_kind))) (h_mo_byX : σ 35 = .inl (cI, 20000, .inl (zA mo_byX))) (h_mo_byY : σ 36 = .inl (cI, 20000, .inl (zA mo_byY))) (h_mo_fieldOf : σ 37 = .inl (cI, 20000, .inl (zA mo_fieldOf))) (h_mo_isSewn : σ 38 = .inl (cZ, 8, .inl (zA mo_isSewn))) (hbg : ∀ i : Nat, i ≠ 19 → i ≠ 31 → i ≠ 32 → i ≠ 33 → i ≠ 34 → i ≠ 35 → i ≠ 36 → i ≠ 37 → i ≠ 38 → σ i = σ0 i) (ls : Array Slot) (hl : lv_has ls 5 [(0, .ref (ad 19)), (1, .int (zI x1)), (2, .int (zI x2))]), (∀ (σ : Nat → va_E) (H : Heap) (locs : List Loc) (hH : zH D ad N (zFr ad N s.heap.size) s.heap σ H locs) (h_mo : σ 19 = oC_mo ad mo_fields mo_bound (mo_points') (mo_crossings') mo_isKnown (mo_commands') (mo_needleX') (mo_needleY') mo_hasFile mo_format mo_length mo_heads mo_late mo_ran mo_program mo_thrown (mo_rowY') mo_stitches) (h_mo_colour : σ 20 = .inl (cI, 8, .inl (zA mo_colour))) (h_mo_layer : σ 21 = .inl (cI, 8, .inl (zA mo_layer))) (h_mo_isColumn : σ 22 = .inl (cZ, 8, .inl (zA mo_isColumn))) (h_mo_corners : σ 23 = .inl (cI, 8, .inl (zA mo_corners))) (h_mo_cornerX : σ 24 = .inl (cI, 64, .inl (zA mo_cornerX))) (h_mo_cornerY : σ 25 = .inl (cI, 64, .inl (zA mo_cornerY))) (h_mo_density : σ 26 = .inl (cI, 8, .inl (zA mo_density))) (h_mo_longest : σ 27 = .inl (cI, 8, .inl (zA mo_longest))) (h_mo_shift : σ 28 = .inl (cI, 8, .inl (zA mo_shift))) (h_mo_pull : σ 29 = .inl (cI, 8, .inl (zA mo_pull))) (h_mo_hasUnderlay : σ 30 = .inl (cZ, 8, .inl (zA mo_hasUnderlay))) (h_mo_pointX : σ 31 = .inl (cI, 4096, .inl (zA (mo_pointX')))) (h_mo_pointY : σ 32 = .inl (cI, 4096, .inl (zA (mo_pointY')))) (h_mo_crossing : σ 33 = .inl (cI, 8, .inl (zA (mo_crossing')))) (h_mo_kind : σ 34 = .inl (cI, 20000, .inl (zA (mo_kind')))) (h_mo_byX : σ 35 = .inl (cI, 20000, .inl (zA (mo_byX')))) (h_mo_byY : σ 36 = .inl (cI, 20000, .inl (zA (mo_byY')))) (h_mo_fieldOf : σ 37 = .inl (cI, 20000, .inl (zA (mo_fieldOf')))) (h_mo_isSewn : σ 38 = .inl (cZ, 8, .inl (zA (mo_isSewn')))) (hbg : ∀ i : Nat, i ≠ 19 → i ≠ 31 → i ≠ 32 → i ≠ 33 → i ≠ 34 → i ≠ 35 → i ≠ 36 → i ≠ 37 → i ≠ 38 → σ i = σ0 i) (ls : Array Slot) (hl : lv_has ls 5 [(0, .ref (ad 19))]), W p l e rmX7_reckons s m args below meth c H locs 0 0 Q (F0 m 138 ls [])) → W p l e rmX7_reckons s m args below meth c H locs 0 0 Q (F0 m 55 ls []) := by
    intro mo_isKnown n
    induction n with
    | zero => intro x1 x2 mo_pointX mo_pointY mo_points mo_crossing mo_crossings mo_commands mo_kind mo_byX mo_byY mo_fieldOf mo_needleX mo_needleY mo_isSewn mo_rowY x1' x2' mo_pointX' mo_pointY' mo_points' mo_crossing' mo_crossings' mo_commands' mo_kind' mo_byX' mo_byY' mo_fieldOf' mo_needleX' mo_needleY' mo_isSewn' mo_rowY' hz; exact (zlp_0 hz).elim
    | succ n ih =>
      intro x1 x2 mo_pointX mo_pointY mo_points mo_crossing mo_crossings mo_commands mo_kind mo_byX mo_byY mo_fieldOf mo_needleX mo_needleY mo_isSewn mo_rowY x1' x2' mo_pointX' mo_pointY' mo_points' mo_crossing' mo_crossings' mo_commands' mo_kind' mo_byX' mo_byY' mo_fieldOf' mo_needleX' mo_needleY' mo_isSewn' mo_rowY' hz σ H locs hH h_mo h_mo_colour h_mo_layer h_mo_isColumn h_mo_corners h_mo_cornerX h_mo_cornerY h_mo_density h_mo_longest h_mo_shift h_mo_pull h_mo_hasUnderlay h_mo_pointX h_mo_pointY h_mo_crossing h_mo_kind h_mo_byX h_mo_byY h_mo_fieldOf h_mo_isSewn hbg ls hl kx
      obtain ⟨nx, hf, hnx⟩ := zlp_some hz
      have hf : f_X7_reckons_L55 mo_fields mo_colour mo_layer mo_isColumn mo_corners mo_cornerX mo_cornerY mo_density mo_longest mo_shift mo_pull mo_hasUnderlay mo_bound mo_isKnown x1 x2 mo_pointX mo_pointY mo_points mo_crossing mo_crossings mo_commands mo_kind mo_byX mo_byY mo_fieldOf mo_needleX mo_needleY mo_isSewn mo_rowY = some nx := hf
      have L67 : ∀ (mo_isKnown : Int) (x2 : Int)  (n : Nat) (x1 : Int) (x3 : Int) (mo_pointX : Int → Int) (mo_pointY : Int → Int) (mo_points : Int) (mo_crossing : Int → Int) (mo_crossings : Int) (mo_commands : Int) (mo_kind : Int → Int) (mo_byX : Int → Int) (mo_byY : Int → Int) (mo_fieldOf : Int → Int) (mo_needleX : Int) (mo_needleY : Int) (mo_isSewn : Int → Int) (mo_rowY : Int) (x1' : Int) (x3' : Int) (mo_pointX' : Int → Int) (mo_pointY' : Int → Int) (mo_points' : Int) (mo_crossing' : Int → Int) (mo_crossings' : Int) (mo_commands' : Int) (mo_kind' : Int → Int) (mo_byX' : Int → Int) (mo_byY' : Int → Int) (mo_fieldOf' : Int → Int) (mo_needleX' : Int) (mo_needleY' : Int) (mo_isSewn' : Int → Int) (mo_rowY' : Int), zlp (fun z => f_X7_reckons_L67 mo_fields mo_colour mo_layer mo_isColumn mo_corners mo_cornerX mo_cornerY mo_density mo_longest mo_shift mo_pull mo_hasUnderlay mo_bound mo_isKnown x2 z.1 z.2.1 z.2.2.1 z.2.2.2.1 z.2.2.2.2.1 z.2.2.2.2.2.1 z.2.2.2.2.2.2.1 z.2.2.2.2.2.2.2.1 z.2.2.2.2.2.2.2.2.1 z.2.2.2.2.2.2.2.2.2.1 z.2.2.2.2.2.2.2.2.2.2.1 z.2.2.2.2.2.2.2.2.2.2.2.1 z.2.2.2.2.2.2.2.2.2.2.2.2.1 z.2.2.2.2.2.2.2.2.2.2.2.2.2.1 z.2.2.2.2.2.2.2.2.2.2.2.2.2.2.1 z.2.2.2.2.2.2.2.2.2.2.2.2.2.2.2) n (x1, x3, mo_pointX, mo_pointY, mo_points, mo_crossing, mo_crossings, mo_commands, mo_kind, mo_byX, mo_byY, mo_fieldOf, mo_needleX, mo_needleY, mo_isSewn, mo_rowY) = some (x1', x3', mo_pointX', mo_pointY', mo_points', mo_crossing', mo_crossings', mo_commands', mo_kind', mo_byX', mo_byY', mo_fieldOf', mo_needleX', mo_needleY', mo_isSewn', mo_rowY') → ∀ (σ : Nat → va_E) (H : Heap) (locs : List Loc) (hH : zH D ad N (zFr ad N s.heap.size) s.heap σ H locs) (h_mo : σ 19 = oC_mo ad mo_fields mo_bound mo_points mo_crossings mo_isKnown mo_commands mo_needleX mo_needleY mo_hasFile mo_format mo_length mo_heads mo_late mo_ran mo_program mo_thrown mo_rowY mo_stitches) (h_mo_colour : σ 20 = .inl (cI, 8, .inl (zA mo_colour))) (h_mo_layer : σ 21 = .inl (cI, 8, .inl (zA mo_layer))) (h_mo_isColumn : σ 22 = .inl (cZ, 8, .inl (zA mo_isColumn))) (h_mo_corners : σ 23 = .inl (cI, 8, .inl (zA mo_corners))) (h_mo_cornerX : σ 24 = .inl (cI, 64, .inl (zA mo_cornerX))) (h_mo_cornerY : σ 25 = .inl (cI, 64, .inl (zA mo_cornerY))) (h_mo_density : σ 26 = .inl (cI, 8, .inl (zA mo_density))) (h_mo_longest : σ 27 = .inl (cI, 8, .inl (zA mo_longest))) (h_mo_shift : σ 28 = .inl (cI, 8, .inl (zA mo_shift))) (h_mo_pull : σ 29 = .inl (cI, 8, .inl (zA mo_pull))) (h_mo_hasUnderlay : σ 30 = .inl (cZ, 8, .inl (zA mo_hasUnderlay))) (h_mo_pointX : σ 31 = .inl (cI, 4096, .inl (zA mo_pointX))) (h_mo_pointY : σ 32 = .inl (cI, 4096, .inl (zA mo_pointY))) (h_mo_crossing : σ 33 = .inl (cI, 8, .inl (zA mo_crossing))) (h_mo_kind : σ 34 = .inl (cI, 20000, .inl (zA mo_kind))) (h_mo_byX : σ 35 = .inl (cI, 20000, .inl (zA mo_byX))) (h_mo_byY : σ 36 = .inl (cI, 20000, .inl (zA mo_byY))) (h_mo_fieldOf : σ 37 = .inl (cI, 20000, .inl (zA mo_fieldOf))) (h_mo_isSewn : σ 38 = .inl (cZ, 8, .inl (zA mo_isSewn))) (hbg : ∀ i : Nat, i ≠ 19 → i ≠ 31 → i ≠ 32 → i ≠ 33 → i ≠ 34 → i ≠ 35 → i ≠ 36 → i ≠ 37 → i ≠ 38 → σ i = σ0 i) (ls : Array Slot) (hl : lv_has ls 5 [(0, .ref (ad 19)), (1, .int (zI x1)), (2, .int (zI x2)), (3, .int (zI x3))]), (∀ (σ : Nat → va_E) (H : Heap) (locs : List Loc) (hH : zH D ad N (zFr ad N s.heap.size) s.heap σ H locs) (h_mo : σ 19 = oC_mo ad mo_fields mo_bound (mo_points') (mo_crossings') mo_isKnown (mo_commands') (mo_needleX') (mo_needleY') mo_hasFile mo_format mo_length mo_heads mo_late mo_ran mo_program mo_thrown (mo_rowY') mo_stitches) (h_mo_colour : σ 20 = .inl (cI, 8, .inl (zA mo_colour))) (h_mo_layer : σ 21 = .inl (cI, 8, .inl (zA mo_layer))) (h_mo_isColumn : σ 22 = .inl (cZ, 8, .inl (zA mo_isColumn))) (h_mo_corners : σ 23 = .inl (cI, 8, .inl (zA mo_corners))) (h_mo_cornerX : σ 24 = .inl (cI, 64, .inl (zA mo_cornerX))) (h_mo_cornerY : σ 25 = .inl (cI, 64, .inl (zA mo_cornerY))) (h_mo_density : σ 26 = .inl (cI, 8, .inl (zA mo_density))) (h_mo_longest : σ 27 = .inl (cI, 8, .inl (zA mo_longest))) (h_mo_shift : σ 28 = .inl (cI, 8, .inl (zA mo_shift))) (h_mo_pull : σ 29 = .inl (cI, 8, .inl (zA mo_pull))) (h_mo_hasUnderlay : σ 30 = .inl (cZ, 8, .inl (zA mo_hasUnderlay))) (h_mo_pointX : σ 31 = .inl (cI, 4096, .inl (zA (mo_pointX')))) (h_mo_pointY : σ 32 = .inl (cI, 4096, .inl (zA (mo_pointY')))) (h_mo_crossing : σ 33 = .inl (cI, 8, .inl (zA (mo_crossing')))) (h_mo_kind : σ 34 = .inl (cI, 20000, .inl (zA (mo_kind')))) (h_mo_byX : σ 35 = .inl (cI, 20000, .inl (zA (mo_byX')))) (h_mo_byY : σ 36 = .inl (cI, 20000, .inl (zA (mo_byY')))) (h_mo_fieldOf : σ 37 = .inl (cI, 20000, .inl (zA (mo_fieldOf')))) (h_mo_isSewn : σ 38 = .inl (cZ, 8, .inl (zA (mo_isSewn')))) (hbg : ∀ i : Nat, i ≠ 19 → i ≠ 31 → i ≠ 32 → i ≠ 33 → i ≠ 34 → i ≠ 35 → i ≠ 36 → i ≠ 37 → i ≠ 38 → σ i = σ0 i) (ls : Array Slot) (hl : lv_has ls 5 [(0, .ref (ad 19)), (1, .int (zI (x1'))), (2, .int (zI x2))]), W p l e rmX7_reckons s m args below meth c H locs 0 0 Q (F0 m 132 ls [])) → W p l e rmX7_reckons s m args below meth c H locs 0 0 Q (F0 m 67 ls []) := by
        intro mo_isKnown x2 n
        induction n with
        | zero => intro x1 x3 mo_pointX mo_pointY mo_points mo_crossing mo_crossings mo_commands mo_kind mo_byX mo_byY mo_fieldOf mo_needleX mo_needleY mo_isSewn mo_rowY x1' x3' mo_pointX' mo_pointY' mo_points' mo_crossing' mo_crossings' mo_commands' mo_kind' mo_byX' mo_byY' mo_fieldOf' mo_needleX' mo_needleY' mo_isSewn' mo_rowY' hz; exact (zlp_0 hz).elim
        | succ n ih =>
          intro x1 x3 mo_pointX mo_pointY mo_points mo_crossing mo_crossings mo_commands mo_kind mo_byX mo_byY mo_fieldOf mo_needleX mo_needleY mo_isSewn mo_rowY x1' x3' mo_pointX' mo_pointY' mo_points' mo_crossing' mo_crossings' mo_commands' mo_kind' mo_byX' mo_byY' mo_fieldOf' mo_needleX' mo_needleY' mo_isSewn' mo_rowY' hz σ H locs hH h_mo h_mo_colour h_mo_layer h_mo_isColumn h_mo_corners h_mo_cornerX h_mo_cornerY h_mo_density h_mo_longest h_mo_shift h_mo_pull h_mo_hasUnderlay h_mo_pointX h_mo_pointY h_mo_crossing h_mo_kind h_mo_byX h_mo_byY h_mo_fieldOf h_mo_isSewn hbg ls hl kx
          obtain ⟨nx, hf, hnx⟩ := zlp_some hz
          have hf : f_X7_reckons_L67 mo_fields mo_colour mo_layer mo_isColumn mo_corners mo_cornerX mo_cornerY mo_density mo_longest mo_shift mo_pull mo_hasUnderlay mo_bound mo_isKnown x2 x1 x3 mo_pointX mo_pointY mo_points mo_crossing mo_crossings mo_commands mo_kind mo_byX mo_byY mo_fieldOf mo_needleX mo_needleY mo_isSewn mo_rowY = some nx := hf
          have JL67_101 : ∀ (mo_pointX : Int → Int) (mo_pointY : Int → Int) (mo_points : Int) (mo_crossing : Int → Int) (mo_crossings : Int) (mo_commands : Int) (mo_kind : Int → Int) (mo_byX : Int → Int) (mo_byY : Int → Int) (mo_fieldOf : Int → Int) (mo_needleX : Int) (mo_needleY : Int) (mo_isSewn : Int → Int) (mo_rowY : Int) (x1 : Int) (s0 : Int) (σ : Nat → va_E) (H : Heap) (locs : List Loc) (hH : zH D ad N (zFr ad N s.heap.size) s.heap σ H locs) (h_mo : σ 19 = oC_mo ad mo_fields mo_bound mo_points mo_crossings mo_isKnown mo_commands mo_needleX mo_needleY mo_hasFile mo_format mo_length mo_heads mo_late mo_ran mo_program mo_thrown mo_rowY mo_stitches) (h_mo_colour : σ 20 = .inl (cI, 8, .inl (zA mo_colour))) (h_mo_layer : σ 21 = .inl (cI, 8, .inl (zA mo_layer))) (h_mo_isColumn : σ 22 = .inl (cZ, 8, .inl (zA mo_isColumn))) (h_mo_corners : σ 23 = .inl (cI, 8, .inl (zA mo_corners))) (h_mo_cornerX : σ 24 = .inl (cI, 64, .inl (zA mo_cornerX))) (h_mo_cornerY : σ 25 = .inl (cI, 64, .inl (zA mo_cornerY))) (h_mo_density : σ 26 = .inl (cI, 8, .inl (zA mo_density))) (h_mo_longest : σ 27 = .inl (cI, 8, .inl (zA mo_longest))) (h_mo_shift : σ 28 = .inl (cI, 8, .inl (zA mo_shift))) (h_mo_pull : σ 29 = .inl (cI, 8, .inl (zA mo_pull))) (h_mo_hasUnderlay : σ 30 = .inl (cZ, 8, .inl (zA mo_hasUnderlay))) (h_mo_pointX : σ 31 = .inl (cI, 4096, .inl (zA mo_pointX))) (h_mo_pointY : σ 32 = .inl (cI, 4096, .inl (zA mo_pointY))) (h_mo_crossing : σ 33 = .inl (cI, 8, .inl (zA mo_crossing))) (h_mo_kind : σ 34 = .inl (cI, 20000, .inl (zA mo_kind))) (h_mo_byX : σ 35 = .inl (cI, 20000, .inl (zA mo_byX))) (h_mo_byY : σ 36 = .inl (cI, 20000, .inl (zA mo_byY))) (h_mo_fieldOf : σ 37 = .inl (cI, 20000, .inl (zA mo_fieldOf))) (h_mo_isSewn : σ 38 = .inl (cZ, 8, .inl (zA mo_isSewn))) (hbg : ∀ i : Nat, i ≠ 19 → i ≠ 31 → i ≠ 32 → i ≠ 33 → i ≠ 34 → i ≠ 35 → i ≠ 36 → i ≠ 37 → i ≠ 38 → σ i = σ0 i) (ls : Array Slot) (hl : lv_has ls 5 [(0, .ref (ad 19)), (1, .int (zI x1)), (2, .int (zI x2))]), f_X7_reckons_L67_101 mo_fields mo_colour mo_layer mo_isColumn mo_corners mo_cornerX mo_cornerY mo_density mo_longest mo_shift mo_pull mo_hasUnderlay mo_bound mo_pointX mo_pointY mo_points mo_crossing mo_crossings mo_isKnown mo_commands mo_kind mo_byX mo_byY mo_fieldOf mo_needleX mo_needleY mo_isSewn mo_rowY x1 x2 s0 = some nx → W p l e rmX7_reckons s m args below meth c H locs 0 0 Q (F0 m 101 ls [.int (zI s0)]) := by
            intro mo_pointX mo_pointY mo_points mo_crossing mo_crossings mo_commands mo_kind mo_byX mo_byY mo_fieldOf mo_needleX mo_needleY mo_isSewn mo_rowY x1 s0 σ H locs hH h_mo h_mo_colour h_mo_layer h_mo_isColumn h_mo_corners h_mo_cornerX h_mo_cornerY h_mo_density h_mo_longest h_mo_shift h_mo_pull h_mo_hasUnderlay h_mo_pointX h_mo_pointY h_mo_crossing h_mo_kind h_mo_byX h_mo_byY h_mo_fieldOf h_mo_isSewn hbg ls hl hf
            unfold f_X7_reckons_L67_101 at hf
            refine lv_istore_n (lv' := [(3, .int (zI s0)), (0, .ref (ad 19)), (1, .int (zI x1)), (2, .int (zI x2))]) hx hb dX7_reckons_101 rfl hl (by decide) rfl (fun ls hl => ?_)
            refine lv_aload_n hx hb dX7_reckons_102 rfl (lv_at hl 1 rfl) ?_
            refine lv_iload_n hx hb dX7_reckons_103 rfl (lv_at hl 0 rfl) ?_
            refine lv_iload_n hx hb dX7_reckons_104 rfl (lv_at hl 2 rfl) ?_
            obtain ⟨a1, a2, u3, a4, u5, u6, a7, a8, a9, a10, u11, u12, u13, k14, hf⟩ := zb13_some hf
            refine zcVv (C := RX7) (As := [.int (zI s0), .int (zI x1)]) (rest := []) hx hb hml hown hts hl.1 hK hH hA (c_X7_sews hI hN  h_mo h_mo_colour h_mo_isColumn h_mo_corners h_mo_cornerX h_mo_cornerY h_mo_density h_mo_longest h_mo_shift h_mo_pull h_mo_hasUnderlay h_mo_pointX h_mo_pointY h_mo_crossing h_mo_kind h_mo_byX h_mo_byY h_mo_fieldOf k14) zk_t5_95 zk_t5_97 zk_s3_10 zk_t1_6 zk_t5_98 hd_X7_sews rfl ⟨rfl, rfl, Nat.le_of_ble_eq_true rfl, Nat.le_of_ble_eq_true rfl⟩ ⟨Nat.zero_le _, Nat.zero_le _⟩ hk_mo h_mo rfl rfl rfl (Nat.le_of_ble_eq_true rfl) dX7_reckons_105 (fun σ15 Hσ15 lσ15 hp hH => ?_)
            obtain ⟨h_mo, h_mo_pointX, h_mo_pointY, h_mo_crossing, h_mo_kind, h_mo_byX, h_mo_byY, h_mo_fieldOf, hn⟩ := hp
            have h_mo_colour := (hn 20 (by decide) (by decide) (by decide) (by decide) (by decide) (by decide) (by decide) (by decide)).trans h_mo_colour
            have h_mo_layer := (hn 21 (by decide) (by decide) (by decide) (by decide) (by decide) (by decide) (by decide) (by decide)).trans h_mo_layer
            have h_mo_isColumn := (hn 22 (by decide) (by decide) (by decide) (by decide) (by decide) (by decide) (by decide) (by decide)).trans h_mo_isColumn
            have h_mo_corners := (hn 23 (by decide) (by decide) (by decide) (by decide) (by decide) (by decide) (by decide) (by decide)).trans h_mo_corners
            have h_mo_cornerX := (hn 24 (by decide) (by decide) (by decide) (by decide) (by decide) (by decide) (by decide) (by decide)).trans h_mo_cornerX
            have h_mo_cornerY := (hn 25 (by decide) (by decide) (by decide) (by decide) (by decide) (by decide) (by decide) (by decide)).trans h_mo_cornerY
            have h_mo_density := (hn 26 (by decide) (by decide) (by decide) (by decide) (by decide) (by decide) (by decide) (by decide)).trans h_mo_density
            have h_mo_longest := (hn 27 (by decide) (by decide) (by decide) (by decide) (by decide) (by decide) (by decide) (by decide)).trans h_mo_longest
            have h_mo_shift := (hn 28 (by decide) (by decide) (by decide) (by decide) (by decide) (by decide) (by decide) (by decide)).trans h_mo_shift
            have h_mo_pull := (hn 29 (by decide) (by decide) (by decide) (by decide) (by decide) (by decide) (by decide) (by decide)).trans h_mo_pull
            have h_mo_hasUnderlay := (hn 30 (by decide) (by decide) (by decide) (by decide) (by decide) (by decide) (by decide) (by decide)).trans h_mo_hasUnderlay
            have h_mo_isSewn := (hn 38 (by decide) (by decide) (by decide) (by decide) (by decide) (by decide) (by decide) (by decide)).trans h_mo_isSewn
            have hbg : ∀ i : Nat, i ≠ 19 → i ≠ 31 → i ≠ 32 → i ≠ 33 → i ≠ 34 → i ≠ 35 → i ≠ 36 → i ≠ 37 → i ≠ 38 → σ15 i = σ0 i := fun i a0 a1 a2 a3 a4 a5 a6 a7 a8 => (hn i a0 a1 a2 a3 a4 a5 a6 a7).trans (hbg i a0 a1 a2 a3 a4 a5 a6 a7 a8)
            refine lv_aload_n hx hb dX7_reckons_108 rfl (lv_at hl 1 rfl) ?_
            refine zget hx hb inlX7 rfl 26 rfl zk_t4_139 hts hown hK hH hk_mo h_mo rfl dX7_reckons_109 ?_
            refine lv_iload_n hx hb dX7_reckons_112 rfl (lv_at hl 0 rfl) ?_
            refine lv_iconst (v := zI 1) hx hb dX7_reckons_113 (by decide +kernel) ?_
            obtain ⟨k16, hf⟩ := zck_some hf
            obtain ⟨a18, ea18, hf⟩ := zlt_some hf
            refine zzast hx hb hK hH hk_mo_isSewn 1 h_mo_isSewn rfl k16 (Or.inr rfl) rfl dX7_reckons_114 (fun σ17 Hσ17 lσ17 h_mo_isSewn hn hH => ?_)
            rw [← ea18] at h_mo_isSewn
            have h_mo := (hn 19 (by decide)).trans h_mo
            have h_mo_colour := (hn 20 (by decide)).trans h_mo_colour
            have h_mo_layer := (hn 21 (by decide)).trans h_mo_layer
            have h_mo_isColumn := (hn 22 (by decide)).trans h_mo_isColumn
            have h_mo_corners := (hn 23 (by decide)).trans h_mo_corners
            have h_mo_cornerX := (hn 24 (by decide)).trans h_mo_cornerX
            have h_mo_cornerY := (hn 25 (by decide)).trans h_mo_cornerY
            have h_mo_density := (hn 26 (by decide)).trans h_mo_density
            have h_mo_longest := (hn 27 (by decide)).trans h_mo_longest
            have h_mo_shift := (hn 28 (by decide)).trans h_mo_shift
            have h_mo_pull := (hn 29 (by decide)).trans h_mo_pull
            have h_mo_hasUnderlay := (hn 30 (by decide)).trans h_mo_hasUnderlay
            have h_mo_pointX := (hn 31 (by decide)).trans h_mo_pointX
            have h_mo_pointY := (hn 32 (by decide)).trans h_mo_pointY
            have h_mo_crossing := (hn 33 (by decide)).trans h_mo_crossing
            have h_mo_kind := (hn 34 (by decide)).trans h_mo_kind
            have h_mo_byX := (hn 35 (by decide)).trans h_mo_byX
            have h_mo_byY := (hn 36 (by decide)).trans h_mo_byY
            have h_mo_fieldOf := (hn 37 (by decide)).trans h_mo_fieldOf
            have hbg : ∀ i : Nat, i ≠ 19 → i ≠ 31 → i ≠ 32 → i ≠ 33 → i ≠ 34 → i ≠ 35 → i ≠ 36 → i ≠ 37 → i ≠ 38 → σ17 i = σ0 i := fun i a0 a1 a2 a3 a4 a5 a6 a7 a8 => (hn i a8).trans (hbg i a0 a1 a2 a3 a4 a5 a6 a7 a8)
            refine lv_aload_n hx hb dX7_reckons_115 rfl (lv_at hl 1 rfl) ?_
            refine zget hx hb inlX7 rfl 1 rfl zk_t4_114 hts hown hK hH hk_mo h_mo rfl dX7_reckons_116 ?_
            refine lv_iload_n hx hb dX7_reckons_119 rfl (lv_at hl 0 rfl) ?_
            obtain ⟨k19, hf⟩ := zck_some hf
            refine ziald hx hb hK hH hk_mo_colour 0 h_mo_colour rfl k19 rfl dX7_reckons_120 ?_
            obtain ⟨v20, ev20, hf⟩ := zlt_some hf
            refine lz_nm ev20 ?_
            refine lv_istore_n (lv' := [(1, .int (zI v20)), (3, .int (zI s0)), (0, .ref (ad 19)), (2, .int (zI x2))]) hx hb dX7_reckons_121 rfl hl (by decide) rfl (fun ls hl => ?_)
            refine lv_aload_n hx hb dX7_reckons_122 rfl (lv_at hl 2 rfl) ?_
            refine lv_iload_n hx hb dX7_reckons_123 rfl (lv_at hl 3 rfl) ?_
            refine lv_iconst (v := zI (-1)) hx hb dX7_reckons_124 (by decide +kernel) ?_
            obtain ⟨r21, a22, a23, u24, a25, u26, u27, k28, hf⟩ := zb7_some hf
            refine zcVi (C := RX7) (As := [.int (zI x2), .int (zI (-1))]) (rest := []) hx hb hml hown hts hl.1 hK hH hA (c_X7_nearest hI hN  h_mo h_mo_colour h_mo_layer h_mo_isColumn h_mo_corners h_mo_cornerX h_mo_cornerY h_mo_density h_mo_longest h_mo_shift h_mo_pull h_mo_hasUnderlay h_mo_pointX h_mo_pointY h_mo_crossing h_mo_isSewn k28) zk_t5_47 zk_t5_49 zk_s3_1 zk_t1_6 zk_t5_50 hd_X7_nearest rfl ⟨rfl, rfl, Nat.le_of_ble_eq_true rfl, Nat.le_of_ble_eq_true rfl⟩ ⟨Nat.zero_le _, Nat.zero_le _⟩ hk_mo h_mo rfl rfl rfl (Nat.le_of_ble_eq_true rfl) dX7_reckons_125 (fun q30 σ29 Hσ29 lσ29 hp hH => ?_)
            obtain ⟨hr1, h_mo, h_mo_pointX, h_mo_pointY, h_mo_crossing, hn⟩ := hp
            subst hr1
            have h_mo_colour := (hn 20 (by decide) (by decide) (by decide) (by decide)).trans h_mo_colour
            have h_mo_layer := (hn 21 (by decide) (by decide) (by decide) (by decide)).trans h_mo_layer
            have h_mo_isColumn := (hn 22 (by decide) (by decide) (by decide) (by decide)).trans h_mo_isColumn
            have h_mo_corners := (hn 23 (by decide) (by decide) (by decide) (by decide)).trans h_mo_corners
            have h_mo_cornerX := (hn 24 (by decide) (by decide) (by decide) (by decide)).trans h_mo_cornerX
            have h_mo_cornerY := (hn 25 (by decide) (by decide) (by decide) (by decide)).trans h_mo_cornerY
            have h_mo_density := (hn 26 (by decide) (by decide) (by decide) (by decide)).trans h_mo_density
            have h_mo_longest := (hn 27 (by decide) (by decide) (by decide) (by decide)).trans h_mo_longest
            have h_mo_shift := (hn 28 (by decide) (by decide) (by decide) (by decide)).trans h_mo_shift
            have h_mo_pull := (hn 29 (by decide) (by decide) (by decide) (by decide)).trans h_mo_pull
            have h_mo_hasUnderlay := (hn 30 (by decide) (by decide) (by decide) (by decide)).trans h_mo_hasUnderlay
            have h_mo_kind := (hn 34 (by decide) (by decide) (by decide) (by decide)).trans h_mo_kind
            have h_mo_byX := (hn 35 (by decide) (by decide) (by decide) (by decide)).trans h_mo_byX
            have h_mo_byY := (hn 36 (by decide) (by decide) (by decide) (by decide)).trans h_mo_byY
            have h_mo_fieldOf := (hn 37 (by decide) (by decide) (by decide) (by decide)).trans h_mo_fieldOf
            have h_mo_isSewn := (hn 38 (by decide) (by decide) (by decide) (by decide)).trans h_mo_isSewn
            have hbg : ∀ i : Nat, i ≠ 19 → i ≠ 31 → i ≠ 32 → i ≠ 33 → i ≠ 34 → i ≠ 35 → i ≠ 36 → i ≠ 37 → i ≠ 38 → σ29 i = σ0 i := fun i a0 a1 a2 a3 a4 a5 a6 a7 a8 => (hn i a0 a1 a2 a3).trans (hbg i a0 a1 a2 a3 a4 a5 a6 a7 a8)
            refine lv_istore_n (lv' := [(3, .int (zI r21)), (1, .int (zI v20)), (0, .ref (ad 19)), (2, .int (zI x2))]) hx hb dX7_reckons_128 rfl hl (by decide) rfl (fun ls hl => ?_)
            refine lv_goto (tgt := 67) hx hb dX7_reckons_129 (by decide) ?_
            cases hf
            exact ih v20 r21 a22 a23 u24 a25 u26 u6 a7 a8 a9 a10 u11 u12 a18 u27 _ _ _ _ _ _ _ _ _ _ _ _ _ _ _ _ hnx _ _ _ hH h_mo h_mo_colour h_mo_layer h_mo_isColumn h_mo_corners h_mo_cornerX h_mo_cornerY h_mo_density h_mo_longest h_mo_shift h_mo_pull h_mo_hasUnderlay h_mo_pointX h_mo_pointY h_mo_crossing h_mo_kind h_mo_byX h_mo_byY h_mo_fieldOf h_mo_isSewn hbg _ (lv_sub hl [2, 1, 3, 0] rfl) kx
          have JL67_87 : ∀ (mo_pointX : Int → Int) (mo_pointY : Int → Int) (mo_points : Int) (mo_crossing : Int → Int) (mo_crossings : Int) (mo_commands : Int) (mo_kind : Int → Int) (mo_byX : Int → Int) (mo_byY : Int → Int) (mo_fieldOf : Int → Int) (mo_needleX : Int) (mo_needleY : Int) (mo_isSewn : Int → Int) (mo_rowY : Int) (x1 : Int) (x3 : Int) (s0 : Int) (σ : Nat → va_E) (H : Heap) (locs : List Loc) (hH : zH D ad N (zFr ad N s.heap.size) s.heap σ H locs) (h_mo : σ 19 = oC_mo ad mo_fields mo_bound mo_points mo_crossings mo_isKnown mo_commands mo_needleX mo_needleY mo_hasFile mo_format mo_length mo_heads mo_late mo_ran mo_program mo_thrown mo_rowY mo_stitches) (h_mo_colour : σ 20 = .inl (cI, 8, .inl (zA mo_colour))) (h_mo_layer : σ 21 = .inl (cI, 8, .inl (zA mo_layer))) (h_mo_isColumn : σ 22 = .inl (cZ, 8, .inl (zA mo_isColumn))) (h_mo_corners : σ 23 = .inl (cI, 8, .inl (zA mo_corners))) (h_mo_cornerX : σ 24 = .inl (cI, 64, .inl (zA mo_cornerX))) (h_mo_cornerY : σ 25 = .inl (cI, 64, .inl (zA mo_cornerY))) (h_mo_density : σ 26 = .inl (cI, 8, .inl (zA mo_density))) (h_mo_longest : σ 27 = .inl (cI, 8, .inl (zA mo_longest))) (h_mo_shift : σ 28 = .inl (cI, 8, .inl (zA mo_shift))) (h_mo_pull : σ 29 = .inl (cI, 8, .inl (zA mo_pull))) (h_mo_hasUnderlay : σ 30 = .inl (cZ, 8, .inl (zA mo_hasUnderlay))) (h_mo_pointX : σ 31 = .inl (cI, 4096, .inl (zA mo_pointX))) (h_mo_pointY : σ 32 = .inl (cI, 4096, .inl (zA mo_pointY))) (h_mo_crossing : σ 33 = .inl (cI, 8, .inl (zA mo_crossing))) (h_mo_kind : σ 34 = .inl (cI, 20000, .inl (zA mo_kind))) (h_mo_byX : σ 35 = .inl (cI, 20000, .inl (zA mo_byX))) (h_mo_byY : σ 36 = .inl (cI, 20000, .inl (zA mo_byY))) (h_mo_fieldOf : σ 37 = .inl (cI, 20000, .inl (zA mo_fieldOf))) (h_mo_isSewn : σ 38 = .inl (cZ, 8, .inl (zA mo_isSewn))) (hbg : ∀ i : Nat, i ≠ 19 → i ≠ 31 → i ≠ 32 → i ≠ 33 → i ≠ 34 → i ≠ 35 → i ≠ 36 → i ≠ 37 → i ≠ 38 → σ i = σ0 i) (ls : Array Slot) (hl : lv_has ls 5 [(0, .ref (ad 19)), (1, .int (zI x1)), (2, .int (zI x2)), (3, .int (zI x3))]), f_X7_reckons_L67_87 mo_fields mo_colour mo_layer mo_isColumn mo_corners mo_cornerX mo_cornerY mo_density mo_longest mo_shift mo_pull mo_hasUnderlay mo_bound mo_pointX mo_pointY mo_points mo_crossing mo_crossings mo_isKnown mo_commands mo_kind mo_byX mo_byY mo_fieldOf mo_needleX mo_needleY mo_isSewn mo_rowY x1 x2 x3 s0 = some nx → W p l e rmX7_reckons s m args below meth c H locs 0 0 Q (F0 m 87 ls [.int (zI s0)]) := by
            intro mo_pointX mo_pointY mo_points mo_crossing mo_crossings mo_commands mo_kind mo_byX mo_byY mo_fieldOf mo_needleX mo_needleY mo_isSewn mo_rowY x1 x3 s0 σ H locs hH h_mo h_mo_colour h_mo_layer h_mo_isColumn h_mo_corners h_mo_cornerX h_mo_cornerY h_mo_density h_mo_longest h_mo_shift h_mo_pull h_mo_hasUnderlay h_mo_pointX h_mo_pointY h_mo_crossing h_mo_kind h_mo_byX h_mo_byY h_mo_fieldOf h_mo_isSewn hbg ls hl hf
            unfold f_X7_reckons_L67_87 at hf
            refine lv_istore (lv' := [(4, .int (zI s0)), (0, .ref (ad 19)), (1, .int (zI x1)), (2, .int (zI x2)), (3, .int (zI x3))]) hx hb dX7_reckons_87 hl (by decide) rfl (fun ls hl => ?_)
            refine lv_iload hx hb dX7_reckons_89 (lv_at hl 0 rfl) ?_
            refine lv_iconst (v := zI (-1)) hx hb dX7_reckons_91 (by decide +kernel) ?_
            obtain ⟨k31, hf⟩ := zck_some hf
            refine lz_icmp_ne (tgt := 99) hx hb ⟨k31, by decide⟩ dX7_reckons_92 (by decide) (fun c32 => ?_) (fun c32 => ?_)
            · replace hf := (if_neg c32).symm.trans hf
              refine lv_iload hx hb dX7_reckons_99 (lv_at hl 0 rfl) ?_
              exact JL67_101 mo_pointX mo_pointY mo_points mo_crossing mo_crossings mo_commands mo_kind mo_byX mo_byY mo_fieldOf mo_needleX mo_needleY mo_isSewn mo_rowY x1 s0 _ _ _ hH h_mo h_mo_colour h_mo_layer h_mo_isColumn h_mo_corners h_mo_cornerX h_mo_cornerY h_mo_density h_mo_longest h_mo_shift h_mo_pull h_mo_hasUnderlay h_mo_pointX h_mo_pointY h_mo_crossing h_mo_kind h_mo_byX h_mo_byY h_mo_fieldOf h_mo_isSewn hbg _ (lv_sub hl [1, 2, 3] rfl) hf
            · replace hf := (if_pos c32).symm.trans hf
              refine lv_iload_n hx hb dX7_reckons_95 rfl (lv_at hl 4 rfl) ?_
              refine lv_goto (tgt := 101) hx hb dX7_reckons_96 (by decide) ?_
              exact JL67_101 mo_pointX mo_pointY mo_points mo_crossing mo_crossings mo_commands mo_kind mo_byX mo_byY mo_fieldOf mo_needleX mo_needleY mo_isSewn mo_rowY x1 x3 _ _ _ hH h_mo h_mo_colour h_mo_layer h_mo_isColumn h_mo_corners h_mo_cornerX h_mo_cornerY h_mo_density h_mo_longest h_mo_shift h_mo_pull h_mo_hasUnderlay h_mo_pointX h_mo_pointY h_mo_crossing h_mo_kind h_mo_byX h_mo_byY h_mo_fieldOf h_mo_isSewn hbg _ (lv_sub hl [1, 2, 3] rfl) hf
          unfold f_X7_reckons_L67 at hf
          refine lv_iload_n hx hb dX7_reckons_67 rfl (lv_at hl 3 rfl) ?_
          refine lv_iconst (v := zI (-1)) hx hb dX7_reckons_68 (by decide +kernel) ?_
          obtain ⟨k33, hf⟩ := zck_some hf
          refine lz_icmp_eq (tgt := 132) hx hb ⟨k33, by decide⟩ dX7_reckons_69 (by decide) (fun c34 => ?_) (fun c34 => ?_)
          · replace hf := (if_pos c34).symm.trans hf
            cases hf
            cases hnx
            exact kx _ _ _ hH h_mo h_mo_colour h_mo_layer h_mo_isColumn h_mo_corners h_mo_cornerX h_mo_cornerY h_mo_density h_mo_longest h_mo_shift h_mo_pull h_mo_hasUnderlay h_mo_pointX h_mo_pointY h_mo_crossing h_mo_kind h_mo_byX h_mo_byY h_mo_fieldOf h_mo_isSewn hbg _ (lv_sub hl [0, 1, 2] rfl)
          · replace hf := (if_neg c34).symm.trans hf
            refine lv_iload_n hx hb dX7_reckons_72 rfl (lv_at hl 1 rfl) ?_
            refine lv_iconst (v := zI (-1)) hx hb dX7_reckons_73 (by decide +kernel) ?_
            obtain ⟨k35, hf⟩ := zck_some hf
            refine lz_icmp_ne (tgt := 81) hx hb ⟨k35, by decide⟩ dX7_reckons_74 (by decide) (fun c36 => ?_) (fun c36 => ?_)
            · replace hf := (if_neg c36).symm.trans hf
              refine lv_aload_n hx hb dX7_reckons_81 rfl (lv_at hl 0 rfl) ?_
              refine lv_iload_n hx hb dX7_reckons_82 rfl (lv_at hl 2 rfl) ?_
              refine lv_iload_n hx hb dX7_reckons_83 rfl (lv_at hl 1 rfl) ?_
              obtain ⟨r37, a38, a39, u40, a41, u42, u43, k44, hf⟩ := zb7_some hf
              refine zcVi (C := RX7) (As := [.int (zI x2), .int (zI x1)]) (rest := []) hx hb hml hown hts hl.1 hK hH hA (c_X7_nearest hI hN  h_mo h_mo_colour h_mo_layer h_mo_isColumn h_mo_corners h_mo_cornerX h_mo_cornerY h_mo_density h_mo_longest h_mo_shift h_mo_pull h_mo_hasUnderlay h_mo_pointX h_mo_pointY h_mo_crossing h_mo_isSewn k44) zk_t5_47 zk_t5_49 zk_s3_1 zk_t1_6 zk_t5_50 hd_X7_nearest rfl ⟨rfl, rfl, Nat.le_of_ble_eq_true rfl, Nat.le_of_ble_eq_true rfl⟩ ⟨Nat.zero_le _, Nat.zero_le _⟩ hk_mo h_mo rfl rfl rfl (Nat.le_of_ble_eq_true rfl) dX7_reckons_84 (fun q46 σ45 Hσ45 lσ45 hp hH => ?_)
              obtain ⟨hr1, h_mo, h_mo_pointX, h_mo_pointY, h_mo_crossing, hn⟩ := hp
              subst hr1
              have h_mo_colour := (hn 20 (by decide) (by decide) (by decide) (by decide)).trans h_mo_colour
              have h_mo_layer := (hn 21 (by decide) (by decide) (by decide) (by decide)).trans h_mo_layer
              have h_mo_isColumn := (hn 22 (by decide) (by decide) (by decide) (by decide)).trans h_mo_isColumn
              have h_mo_corners := (hn 23 (by decide) (by decide) (by decide) (by decide)).trans h_mo_corners
              have h_mo_cornerX := (hn 24 (by decide) (by decide) (by decide) (by decide)).trans h_mo_cornerX
              have h_mo_cornerY := (hn 25 (by decide) (by decide) (by decide) (by decide)).trans h_mo_cornerY
              have h_mo_density := (hn 26 (by decide) (by decide) (by decide) (by decide)).trans h_mo_density
              have h_mo_longest := (hn 27 (by decide) (by decide) (by decide) (by decide)).trans h_mo_longest
              have h_mo_shift := (hn 28 (by decide) (by decide) (by decide) (by decide)).trans h_mo_shift
              have h_mo_pull := (hn 29 (by decide) (by decide) (by decide) (by decide)).trans h_mo_pull
              have h_mo_hasUnderlay := (hn 30 (by decide) (by decide) (by decide) (by decide)).trans h_mo_hasUnderlay
              have h_mo_kind := (hn 34 (by decide) (by decide) (by decide) (by decide)).trans h_mo_kind
              have h_mo_byX := (hn 35 (by decide) (by decide) (by decide) (by decide)).trans h_mo_byX
              have h_mo_byY := (hn 36 (by decide) (by decide) (by decide) (by decide)).trans h_mo_byY
              have h_mo_fieldOf := (hn 37 (by decide) (by decide) (by decide) (by decide)).trans h_mo_fieldOf
              have h_mo_isSewn := (hn 38 (by decide) (by decide) (by decide) (by decide)).trans h_mo_isSewn
              have hbg : ∀ i : Nat, i ≠ 19 → i ≠ 31 → i ≠ 32 → i ≠ 33 → i ≠ 34 → i ≠ 35 → i ≠ 36 → i ≠ 37 → i ≠ 38 → σ45 i = σ0 i := fun i a0 a1 a2 a3 a4 a5 a6 a7 a8 => (hn i a0 a1 a2 a3).trans (hbg i a0 a1 a2 a3 a4 a5 a6 a7 a8)
              exact JL67_87 a38 a39 u40 a41 u42 mo_commands mo_kind mo_byX mo_byY mo_fieldOf mo_needleX mo_needleY mo_isSewn u43 x1 x3 r37 _ _ _ hH h_mo h_mo_colour h_mo_layer h_mo_isColumn h_mo_corners h_mo_cornerX h_mo_cornerY h_mo_density h_mo_longest h_mo_shift h_mo_pull h_mo_hasUnderlay h_mo_pointX h_mo_pointY h_mo_crossing h_mo_kind h_mo_byX h_mo_byY h_mo_fieldOf h_mo_isSewn hbg _ (lv_sub hl [0, 1, 2, 3] rfl) hf
            · replace hf := (if_pos c36).symm.trans hf
              refine lv_iconst (v := zI (-1)) hx hb dX7_reckons_77 (by decide +kernel) ?_
              refine lv_goto (tgt := 87) hx hb dX7_reckons_78 (by decide) ?_
              exact JL67_87 mo_pointX mo_pointY mo_points mo_crossing mo_crossings mo_commands mo_kind mo_byX mo_byY mo_fieldOf mo_needleX mo_needleY mo_isSewn mo_rowY x1 x3 (-1) _ _ _ hH h_mo h_mo_colour h_mo_layer h_mo_isColumn h_mo_corners h_mo_cornerX h_mo_cornerY h_mo_density h_mo_longest h_mo_shift h_mo_pull h_mo_hasUnderlay h_mo_pointX h_mo_pointY h_mo_crossing h_mo_kind h_mo_byX h_mo_byY h_mo_fieldOf h_mo_isSewn hbg _ (lv_sub hl [0, 1, 2, 3] rfl) hf
      unfold f_X7_reckons_L55 at hf
      refine lv_iload_n hx hb dX7_reckons_55 rfl (lv_at hl 2 rfl) ?_
      refine lv_iconst (v := zI 4) hx hb dX7_reckons_56 (by decide +kernel) ?_
      obtain ⟨k47, hf⟩ := zck_some hf
      refine lz_icmp_ge (tgt := 138) hx hb ⟨k47, by decide⟩ dX7_reckons_57 (by decide) (fun c48 => ?_) (fun c48 => ?_)
      · replace hf := (if_pos c48).symm.trans hf
        cases hf
        cases hnx
        exact kx _ _ _ hH h_mo h_mo_colour h_mo_layer h_mo_isColumn h_mo_corners h_mo_cornerX h_mo_cornerY h_mo_density h_mo_longest h_mo_shift h_mo_pull h_mo_hasUnderlay h_mo_pointX h_mo_pointY h_mo_crossing h_mo_kind h_mo_byX h_mo_byY h_mo_fieldOf h_mo_isSewn hbg _ (lv_sub hl [0] rfl)
      · replace hf := (if_neg c48).symm.trans hf
        refine lv_aload_n hx hb dX7_reckons_60 rfl (lv_at hl 0 rfl) ?_
        refine lv_iload_n hx hb dX7_reckons_61 rfl (lv_at hl 2 rfl) ?_
        refine lv_iconst (v := zI (-1)) hx hb dX7_reckons_62 (by decide +kernel) ?_
        obtain ⟨r49, a50, a51, u52, a53, u54, u55, k56, hf⟩ := zb7_some hf
        refine zcVi (C := RX7) (As := [.int (zI x2), .int (zI (-1))]) (rest := []) hx hb hml hown hts hl.1 hK hH hA (c_X7_nearest hI hN  h_mo h_mo_colour h_mo_layer h_mo_isColumn h_mo_corners h_mo_cornerX h_mo_cornerY h_mo_density h_mo_longest h_mo_shift h_mo_pull h_mo_hasUnderlay h_mo_pointX h_mo_pointY h_mo_crossing h_mo_isSewn k56) zk_t5_47 zk_t5_49 zk_s3_1 zk_t1_6 zk_t5_50 hd_X7_nearest rfl ⟨rfl, rfl, Nat.le_of_ble_eq_true rfl, Nat.le_of_ble_eq_true rfl⟩ ⟨Nat.zero_le _, Nat.zero_le _⟩ hk_mo h_mo rfl rfl rfl (Nat.le_of_ble_eq_true rfl) dX7_reckons_63 (fun q58 σ57 Hσ57 lσ57 hp hH => ?_)
        obtain ⟨hr1, h_mo, h_mo_pointX, h_mo_pointY, h_mo_crossing, hn⟩ := hp
        subst hr1
        have h_mo_colour := (hn 20 (by decide) (by decide) (by decide) (by decide)).trans h_mo_colour
        have h_mo_layer := (hn 21 (by decide) (by decide) (by decide) (by decide)).trans h_mo_layer
        have h_mo_isColumn := (hn 22 (by decide) (by decide) (by decide) (by decide)).trans h_mo_isColumn
        have h_mo_corners := (hn 23 (by decide) (by decide) (by decide) (by decide)).trans h_mo_corners
        have h_mo_cornerX := (hn 24 (by decide) (by decide) (by decide) (by decide)).trans h_mo_cornerX
        have h_mo_cornerY := (hn 25 (by decide) (by decide) (by decide) (by decide)).trans h_mo_cornerY
        have h_mo_density := (hn 26 (by decide) (by decide) (by decide) (by decide)).trans h_mo_density
        have h_mo_longest := (hn 27 (by decide) (by decide) (by decide) (by decide)).trans h_mo_longest
        have h_mo_shift := (hn 28 (by decide) (by decide) (by decide) (by decide)).trans h_mo_shift
        have h_mo_pull := (hn 29 (by decide) (by decide) (by decide) (by decide)).trans h_mo_pull
        have h_mo_hasUnderlay := (hn 30 (by decide) (by decide) (by decide) (by decide)).trans h_mo_hasUnderlay
        have h_mo_kind := (hn 34 (by decide) (by decide) (by decide) (by decide)).trans h_mo_kind
        have h_mo_byX := (hn 35 (by decide) (by decide) (by decide) (by decide)).trans h_mo_byX
        have h_mo_byY := (hn 36 (by decide) (by decide) (by decide) (by decide)).trans h_mo_byY
        have h_mo_fieldOf := (hn 37 (by decide) (by decide) (by decide) (by decide)).trans h_mo_fieldOf
        have h_mo_isSewn := (hn 38 (by decide) (by decide) (by decide) (by decide)).trans h_mo_isSewn
        have hbg : ∀ i : Nat, i ≠ 19 → i ≠ 31 → i ≠ 32 → i ≠ 33 → i ≠ 34 → i ≠ 35 → i ≠ 36 → i ≠ 37 → i ≠ 38 → σ57 i = σ0 i := fun i a0 a1 a2 a3 a4 a5 a6 a7 a8 => (hn i a0 a1 a2 a3).trans (hbg i a0 a1 a2 a3 a4 a5 a6 a7 a8)
        refine lv_istore_n (lv' := [(3, .int (zI r49)), (0, .ref (ad 19)), (1, .int (zI x1)), (2, .int (zI x2))]) hx hb dX7_reckons_66 rfl hl (by decide) rfl (fun ls hl => ?_)
        obtain ⟨w60, w61, w62, w63, w64, w65, w66, w67, w68, w69, w70, w71, w72, w73, w74, w75, k59, hf⟩ := zb16_some hf
        refine L67 mo_isKnown x2 zFU x1 r49 a50 a51 u52 a53 u54 mo_commands mo_kind mo_byX mo_byY mo_fieldOf mo_needleX mo_needleY mo_isSewn u55 w60 w61 w62 w63 w64 w65 w66 w67 w68 w69 w70 w71 w72 w73 w74 w75 k59 _ _ _ hH h_mo h_mo_colour h_mo_layer h_mo_isColumn h_mo_corners h_mo_cornerX h_mo_cornerY h_mo_density h_mo_longest h_mo_shift h_mo_pull h_mo_hasUnderlay h_mo_pointX h_mo_pointY h_mo_crossing h_mo_kind h_mo_byX h_mo_byY h_mo_fieldOf h_mo_isSewn hbg _ (lv_sub hl [1, 2, 3, 0] rfl) (fun σ76 Hσ76 lσ76 hH h_mo h_mo_colour h_mo_layer h_mo_isColumn h_mo_corners h_mo_cornerX h_mo_cornerY h_mo_density h_mo_longest h_mo_shift h_mo_pull h_mo_hasUnderlay h_mo_pointX h_mo_pointY h_mo_crossing h_mo_kind h_mo_byX h_mo_byY h_mo_fieldOf h_mo_isSewn hbg ls hl => ?_)
        refine lz_iinc (lv' := [(2, .int (zI (x2 + 1))), (0, .ref (ad 19)), (1, .int (zI w60))]) hx hb dX7_reckons_132 hl (j := 2) rfl (by decide) rfl (fun ls hl => ?_)
        refine lv_goto (tgt := 55) hx hb dX7_reckons_135 (by decide) ?_
        cases hf
        exact ih w60 (x2 + 1) w62 w63 w64 w65 w66 w67 w68 w69 w70 w71 w72 w73 w74 w75 _ _ _ _ _ _ _ _ _ _ _ _ _ _ _ _ hnx _ _ _ hH h_mo h_mo_colour h_mo_layer h_mo_isColumn h_mo_corners h_mo_cornerX h_mo_cornerY h_mo_density h_mo_longest h_mo_shift h_mo_pull h_mo_hasUnderlay h_mo_pointX h_mo_pointY h_mo_crossing h_mo_kind h_mo_byX h_mo_byY h_mo_fieldOf h_mo_isSewn hbg _ (lv_sub hl [1, 2, 0] rfl) kx
  have L30 : ∀ (mo_pointX : Int → Int) (mo_pointY : Int → Int) (mo_points : Int) (mo_crossing : Int → Int) (mo_crossings : Int) (mo_isKnown : Int) (mo_commands : Int) (mo_kind : Int → Int) (mo_byX : Int → Int) (mo_byY : Int → Int) (mo_fieldOf : Int → Int) (mo_needleX : Int) (mo_needleY : Int) (mo_rowY : Int)  (n : Nat) (x1 : Int) (mo_isSewn : Int → Int) (x1' : Int) (mo_isSewn' : Int → Int), zlp (fun z => f_X7_reckons_L30 mo_fields mo_colour mo_layer mo_isColumn mo_corners mo_cornerX mo_cornerY mo_density mo_longest mo_shift mo_pull mo_hasUnderlay mo_bound mo_pointX mo_pointY mo_points mo_crossing mo_crossings mo_isKnown mo_commands mo_kind mo_byX mo_byY mo_fieldOf mo_needleX mo_needleY mo_rowY z.1 z.2) n (x1, mo_isSewn) = some (x1', mo_isSewn') → ∀ (σ : Nat → va_E) (H : Heap) (locs : List Loc) (hH : zH D ad N (zFr ad N s.heap.size) s.heap σ H locs) (h_mo : σ 19 = oC_mo ad mo_fields mo_bound mo_points mo_crossings mo_isKnown mo_commands mo_needleX mo_needleY mo_hasFile mo_format mo_length mo_heads mo_late mo_ran mo_program mo_thrown mo_rowY mo_stitches) (h_mo_colour : σ 20 = .inl (cI, 8, .inl (zA mo_colour))) (h_mo_layer : σ 21 = .inl (cI, 8, .inl (zA mo_layer))) (h_mo_isColumn : σ 22 = .inl (cZ, 8, .inl (zA mo_isColumn))) (h_mo_corners : σ 23 = .inl (cI, 8, .inl (zA mo_corners))) (h_mo_cornerX : σ 24 = .inl (cI, 64, .inl (zA mo_cornerX))) (h_mo_cornerY : σ 25 = .inl (cI, 64, .inl (zA mo_cornerY))) (h_mo_density : σ 26 = .inl (cI, 8, .inl (zA mo_density))) (h_mo_longest : σ 27 = .inl (cI, 8, .inl (zA mo_longest))) (h_mo_shift : σ 28 = .inl (cI, 8, .inl (zA mo_shift))) (h_mo_pull : σ 29 = .inl (cI, 8, .inl (zA mo_pull))) (h_mo_hasUnderlay : σ 30 = .inl (cZ, 8, .inl (zA mo_hasUnderlay))) (h_mo_pointX : σ 31 = .inl (cI, 4096, .inl (zA mo_pointX))) (h_mo_pointY : σ 32 = .inl (cI, 4096, .inl (zA mo_pointY))) (h_mo_crossing : σ 33 = .inl (cI, 8, .inl (zA mo_crossing))) (h_mo_kind : σ 34 = .inl (cI, 20000, .inl (zA mo_kind))) (h_mo_byX : σ 35 = .inl (cI, 20000, .inl (zA mo_byX))) (h_mo_byY : σ 36 = .inl (cI, 20000, .inl (zA mo_byY))) (h_mo_fieldOf : σ 37 = .inl (cI, 20000, .inl (zA mo_fieldOf))) (h_mo_isSewn : σ 38 = .inl (cZ, 8, .inl (zA mo_isSewn))) (hbg : ∀ i : Nat, i ≠ 19 → i ≠ 31 → i ≠ 32 → i ≠ 33 → i ≠ 34 → i ≠ 35 → i ≠ 36 → i ≠ 37 → i ≠ 38 → σ i = σ0 i) (ls : Array Slot) (hl : lv_has ls 5 [(0, .ref (ad 19)), (1, .int (zI x1))]), (∀ (σ : Nat → va_E) (H : Heap) (locs : List Loc) (hH : zH D ad N (zFr ad N s.heap.size) s.heap σ H locs) (h_mo : σ 19 = oC_mo ad mo_fields mo_bound mo_points mo_crossings mo_isKnown mo_commands mo_needleX mo_needleY mo_hasFile mo_format mo_length mo_heads mo_late mo_ran mo_program mo_thrown mo_rowY mo_stitches) (h_mo_colour : σ 20 = .inl (cI, 8, .inl (zA mo_colour))) (h_mo_layer : σ 21 = .inl (cI, 8, .inl (zA mo_layer))) (h_mo_isColumn : σ 22 = .inl (cZ, 8, .inl (zA mo_isColumn))) (h_mo_corners : σ 23 = .inl (cI, 8, .inl (zA mo_corners))) (h_mo_cornerX : σ 24 = .inl (cI, 64, .inl (zA mo_cornerX))) (h_mo_cornerY : σ 25 = .inl (cI, 64, .inl (zA mo_cornerY))) (h_mo_density : σ 26 = .inl (cI, 8, .inl (zA mo_density))) (h_mo_longest : σ 27 = .inl (cI, 8, .inl (zA mo_longest))) (h_mo_shift : σ 28 = .inl (cI, 8, .inl (zA mo_shift))) (h_mo_pull : σ 29 = .inl (cI, 8, .inl (zA mo_pull))) (h_mo_hasUnderlay : σ 30 = .inl (cZ, 8, .inl (zA mo_hasUnderlay))) (h_mo_pointX : σ 31 = .inl (cI, 4096, .inl (zA mo_pointX))) (h_mo_pointY : σ 32 = .inl (cI, 4096, .inl (zA mo_pointY))) (h_mo_crossing : σ 33 = .inl (cI, 8, .inl (zA mo_crossing))) (h_mo_kind : σ 34 = .inl (cI, 20000, .inl (zA mo_kind))) (h_mo_byX : σ 35 = .inl (cI, 20000, .inl (zA mo_byX))) (h_mo_byY : σ 36 = .inl (cI, 20000, .inl (zA mo_byY))) (h_mo_fieldOf : σ 37 = .inl (cI, 20000, .inl (zA mo_fieldOf))) (h_mo_isSewn : σ 38 = .inl (cZ, 8, .inl (zA (mo_isSewn')))) (hbg : ∀ i : Nat, i ≠ 19 → i ≠ 31 → i ≠ 32 → i ≠ 33 → i ≠ 34 → i ≠ 35 → i ≠ 36 → i ≠ 37 → i ≠ 38 → σ i = σ0 i) (ls : Array Slot) (hl : lv_has ls 5 [(0, .ref (ad 19))]), W p l e rmX7_reckons s m args below meth c H locs 0 0 Q (F0 m 51 ls [])) → W p l e rmX7_reckons s m args below meth c H locs 0 0 Q (F0 m 30 ls []) := by
    intro mo_pointX mo_pointY mo_points mo_crossing mo_crossings mo_isKnown mo_commands mo_kind mo_byX mo_byY mo_fieldOf mo_needleX mo_needleY mo_rowY n
    induction n with
    | zero => intro x1 mo_isSewn x1' mo_isSewn' hz; exact (zlp_0 hz).elim
    | succ n ih =>
      intro x1 mo_isSewn x1' mo_isSewn' hz σ H locs hH h_mo h_mo_colour h_mo_layer h_mo_isColumn h_mo_corners h_mo_cornerX h_mo_cornerY h_mo_density h_mo_longest h_mo_shift h_mo_pull h_mo_hasUnderlay h_mo_pointX h_mo_pointY h_mo_crossing h_mo_kind h_mo_byX h_mo_byY h_mo_fieldOf h_mo_isSewn hbg ls hl kx
      obtain ⟨nx, hf, hnx⟩ := zlp_some hz
      have hf : f_X7_reckons_L30 mo_fields mo_colour mo_layer mo_isColumn mo_corners mo_cornerX mo_cornerY mo_density mo_longest mo_shift mo_pull mo_hasUnderlay mo_bound mo_pointX mo_pointY mo_points mo_crossing mo_crossings mo_isKnown mo_commands mo_kind mo_byX mo_byY mo_fieldOf mo_needleX mo_needleY mo_rowY x1 mo_isSewn = some nx := hf
      unfold f_X7_reckons_L30 at hf
      refine lv_iload_n hx hb dX7_reckons_30 rfl (lv_at hl 1 rfl) ?_
      refine lv_aload_n hx hb dX7_reckons_31 rfl (lv_at hl 0 rfl) ?_
      refine zget hx hb inlX7 rfl 0 rfl zk_t4_113 hts hown hK hH hk_mo h_mo rfl dX7_reckons_32 ?_
      obtain ⟨k77, hf⟩ := zck_some hf
      refine lz_icmp_ge (tgt := 51) hx hb k77 dX7_reckons_35 (by decide) (fun c78 => ?_) (fun c78 => ?_)
      · replace hf := (if_pos c78).symm.trans hf
        cases hf
        cases hnx
        exact kx _ _ _ hH h_mo h_mo_colour h_mo_layer h_mo_isColumn h_mo_corners h_mo_cornerX h_mo_cornerY h_mo_density h_mo_longest h_mo_shift h_mo_pull h_mo_hasUnderlay h_mo_pointX h_mo_pointY h_mo_crossing h_mo_kind h_mo_byX h_mo_byY h_mo_fieldOf h_mo_isSewn hbg _ (lv_sub hl [0] rfl)
      · replace hf := (if_neg c78).symm.trans hf
        refine lv_aload_n hx hb dX7_reckons_38 rfl (lv_at hl 0 rfl) ?_
        refine zget hx hb inlX7 rfl 26 rfl zk_t4_139 hts hown hK hH hk_mo h_mo rfl dX7_reckons_39 ?_
        refine lv_iload_n hx hb dX7_reckons_42 rfl (lv_at hl 1 rfl) ?_
        refine lv_iconst (v := zI 0) hx hb dX7_reckons_43 (by decide +kernel) ?_
        obtain ⟨k79, hf⟩ := zck_some hf
        obtain ⟨a81, ea81, hf⟩ := zlt_some hf
        refine zzast hx hb hK hH hk_mo_isSewn 1 h_mo_isSewn rfl k79 (Or.inl rfl) rfl dX7_reckons_44 (fun σ80 Hσ80 lσ80 h_mo_isSewn hn hH => ?_)
        rw [← ea81] at h_mo_isSewn
        have h_mo := (hn 19 (by decide)).trans h_mo
        have h_mo_colour := (hn 20 (by decide)).trans h_mo_colour
        have h_mo_layer := (hn 21 (by decide)).trans h_mo_layer
        have h_mo_isColumn := (hn 22 (by decide)).trans h_mo_isColumn
        have h_mo_corners := (hn 23 (by decide)).trans h_mo_corners
        have h_mo_cornerX := (hn 24 (by decide)).trans h_mo_cornerX
        have h_mo_cornerY := (hn 25 (by decide)).trans h_mo_cornerY
        have h_mo_density := (hn 26 (by decide)).trans h_mo_density
        have h_mo_longest := (hn 27 (by decide)).trans h_mo_longest
        have h_mo_shift := (hn 28 (by decide)).trans h_mo_shift
        have h_mo_pull := (hn 29 (by decide)).trans h_mo_pull
        have h_mo_hasUnderlay := (hn 30 (by decide)).trans h_mo_hasUnderlay
        have h_mo_pointX := (hn 31 (by decide)).trans h_mo_pointX
        have h_mo_pointY := (hn 32 (by decide)).trans h_mo_pointY
        have h_mo_crossing := (hn 33 (by decide)).trans h_mo_crossing
        have h_mo_kind := (hn 34 (by decide)).trans h_mo_kind
        have h_mo_byX := (hn 35 (by decide)).trans h_mo_byX
        have h_mo_byY := (hn 36 (by decide)).trans h_mo_byY
        have h_mo_fieldOf := (hn 37 (by decide)).trans h_mo_fieldOf
        have hbg : ∀ i : Nat, i ≠ 19 → i ≠ 31 → i ≠ 32 → i ≠ 33 → i ≠ 34 → i ≠ 35 → i ≠ 36 → i ≠ 37 → i ≠ 38 → σ80 i = σ0 i := fun i a0 a1 a2 a3 a4 a5 a6 a7 a8 => (hn i a8).trans (hbg i a0 a1 a2 a3 a4 a5 a6 a7 a8)
        refine lz_iinc (lv' := [(1, .int (zI (x1 + 1))), (0, .ref (ad 19))]) hx hb dX7_reckons_45 hl (j := 1) rfl (by decide) rfl (fun ls hl => ?_)
        refine lv_goto (tgt := 30) hx hb dX7_reckons_48 (by decide) ?_
        cases hf
        exact ih (x1 + 1) a81 _ _ hnx _ _ _ hH h_mo h_mo_colour h_mo_layer h_mo_isColumn h_mo_corners h_mo_cornerX h_mo_cornerY h_mo_density h_mo_longest h_mo_shift h_mo_pull h_mo_hasUnderlay h_mo_pointX h_mo_pointY h_mo_crossing h_mo_kind h_mo_byX h_mo_byY h_mo_fieldOf h_mo_isSewn hbg _ (lv_sub hl [1, 0] rfl) kx
  unfold f_X7_reckons at hf
  refine lv_aload_n hx hb dX7_reckons_0 rfl (lv_at hl 0 rfl) ?_
  refine zget hx hb inlX7 rfl 18 rfl zk_t4_131 hts hown hK hH hk_mo h_mo rfl dX7_reckons_1 ?_
  obtain ⟨k82, hf⟩ := zck_some hf
  refine lz_if_eq (tgt := 8) hx hb k82 dX7_reckons_4 (by decide) (fun c83 => ?_) (fun c83 => ?_)
  · replace hf := (if_pos c83).symm.trans hf
    refine lv_aload_n hx hb dX7_reckons_8 rfl (lv_at hl 0 rfl) ?_
    refine lv_iconst (v := zI 1) hx hb dX7_reckons_9 (by decide +kernel) ?_
    refine zput hx hb inlX7 tyX7 tyX7_ok nmX7 rfl 18 rfl zk_t4_131 rfl hts hown hK hH hk_mo h_mo (z_nar _ (Or.inr rfl)) (z_fit _ (Or.inr rfl)) rfl dX7_reckons_10 (fun σ84 Hσ84 lσ84 h_mo hn hH => ?_)
    have h_mo : σ84 19 = oC_mo ad mo_fields mo_bound mo_points mo_crossings 1 mo_commands mo_needleX mo_needleY mo_hasFile mo_format mo_length mo_heads mo_late mo_ran mo_program mo_thrown mo_rowY mo_stitches := h_mo
    have h_mo_colour := (hn 20 (by decide)).trans h_mo_colour
    have h_mo_layer := (hn 21 (by decide)).trans h_mo_layer
    have h_mo_isColumn := (hn 22 (by decide)).trans h_mo_isColumn
    have h_mo_corners := (hn 23 (by decide)).trans h_mo_corners
    have h_mo_cornerX := (hn 24 (by decide)).trans h_mo_cornerX
    have h_mo_cornerY := (hn 25 (by decide)).trans h_mo_cornerY
    have h_mo_density := (hn 26 (by decide)).trans h_mo_density
    have h_mo_longest := (hn 27 (by decide)).trans h_mo_longest
    have h_mo_shift := (hn 28 (by decide)).trans h_mo_shift
    have h_mo_pull := (hn 29 (by decide)).trans h_mo_pull
    have h_mo_hasUnderlay := (hn 30 (by decide)).trans h_mo_hasUnderlay
    have h_mo_pointX := (hn 31 (by decide)).trans h_mo_pointX
    have h_mo_pointY := (hn 32 (by decide)).trans h_mo_pointY
    have h_mo_crossing := (hn 33 (by decide)).trans h_mo_crossing
    have h_mo_kind := (hn 34 (by decide)).trans h_mo_kind
    have h_mo_byX := (hn 35 (by decide)).trans h_mo_byX
    have h_mo_byY := (hn 36 (by decide)).trans h_mo_byY
    have h_mo_fieldOf := (hn 37 (by decide)).trans h_mo_fieldOf
    have h_mo_isSewn := (hn 38 (by decide)).trans h_mo_isSewn
    have hbg : ∀ i : Nat, i ≠ 19 → i ≠ 31 → i ≠ 32 → i ≠ 33 → i ≠ 34 → i ≠ 35 → i ≠ 36 → i ≠ 37 → i ≠ 38 → σ84 i = σ0 i := fun i a0 a1 a2 a3 a4 a5 a6 a7 a8 => (hn i a0).trans (hbg i a0 a1 a2 a3 a4 a5 a6 a7 a8)
    refine lv_aload_n hx hb dX7_reckons_13 rfl (lv_at hl 0 rfl) ?_
    refine lv_iconst (v := zI 0) hx hb dX7_reckons_14 (by decide +kernel) ?_
    refine zput hx hb inlX7 tyX7 tyX7_ok nmX7 rfl 19 rfl zk_t4_132 rfl hts hown hK hH hk_mo h_mo rfl rfl rfl dX7_reckons_15 (fun σ85 Hσ85 lσ85 h_mo hn hH => ?_)
    have h_mo : σ85 19 = oC_mo ad mo_fields mo_bound mo_points mo_crossings 1 0 mo_needleX mo_needleY mo_hasFile mo_format mo_length mo_heads mo_late mo_ran mo_program mo_thrown mo_rowY mo_stitches := h_mo
    have h_mo_colour := (hn 20 (by decide)).trans h_mo_colour
    have h_mo_layer := (hn 21 (by decide)).trans h_mo_layer
    have h_mo_isColumn := (hn 22 (by decide)).trans h_mo_isColumn
    have h_mo_corners := (hn 23 (by decide)).trans h_mo_corners
    have h_mo_cornerX := (hn 24 (by decide)).trans h_mo_cornerX
    have h_mo_cornerY := (hn 25 (by decide)).trans h_mo_cornerY
    have h_mo_density := (hn 26 (by decide)).trans h_mo_density
    have h_mo_longest := (hn 27 (by decide)).trans h_mo_longest
    have h_mo_shift := (hn 28 (by decide)).trans h_mo_shift
    have h_mo_pull := (hn 29 (by decide)).trans h_mo_pull
    have h_mo_hasUnderlay := (hn 30 (by decide)).trans h_mo_hasUnderlay
    have h_mo_pointX := (hn 31 (by decide)).trans h_mo_pointX
    have h_mo_pointY := (hn 32 (by decide)).trans h_mo_pointY
    have h_mo_crossing := (hn 33 (by decide)).trans h_mo_crossing
    have h_mo_kind := (hn 34 (by decide)).trans h_mo_kind
    have h_mo_byX := (hn 35 (by decide)).trans h_mo_byX
    have h_mo_byY := (hn 36 (by decide)).trans h_mo_byY
    have h_mo_fieldOf := (hn 37 (by decide)).trans h_mo_fieldOf
    have h_mo_isSewn := (hn 38 (by decide)).trans h_mo_isSewn
    have hbg : ∀ i : Nat, i ≠ 19 → i ≠ 31 → i ≠ 32 → i ≠ 33 → i ≠ 34 → i ≠ 35 → i ≠ 36 → i ≠ 37 → i ≠ 38 → σ85 i = σ0 i := fun i a0 a1 a2 a3 a4 a5 a6 a7 a8 => (hn i a0).trans (hbg i a0 a1 a2 a3 a4 a5 a6 a7 a8)
    refine lv_aload_n hx hb dX7_reckons_18 rfl (lv_at hl 0 rfl) ?_
    refine lv_iconst (v := zI 0) hx hb dX7_reckons_19 (by decide +kernel) ?_
    refine zput hx hb inlX7 tyX7 tyX7_ok nmX7 rfl 24 rfl zk_t4_137 rfl hts hown hK hH hk_mo h_mo rfl rfl rfl dX7_reckons_20 (fun σ86 Hσ86 lσ86 h_mo hn hH => ?_)
    have h_mo : σ86 19 = oC_mo ad mo_fields mo_bound mo_points mo_crossings 1 0 0 mo_needleY mo_hasFile mo_format mo_length mo_heads mo_late mo_ran mo_program mo_thrown mo_rowY mo_stitches := h_mo
    have h_mo_colour := (hn 20 (by decide)).trans h_mo_colour
    have h_mo_layer := (hn 21 (by decide)).trans h_mo_layer
    have h_mo_isColumn := (hn 22 (by decide)).trans h_mo_isColumn
    have h_mo_corners := (hn 23 (by decide)).trans h_mo_corners
    have h_mo_cornerX := (hn 24 (by decide)).trans h_mo_cornerX
    have h_mo_cornerY := (hn 25 (by decide)).trans h_mo_cornerY
    have h_mo_density := (hn 26 (by decide)).trans h_mo_density
    have h_mo_longest := (hn 27 (by decide)).trans h_mo_longest
    have h_mo_shift := (hn 28 (by decide)).trans h_mo_shift
    have h_mo_pull := (hn 29 (by decide)).trans h_mo_pull
    have h_mo_hasUnderlay := (hn 30 (by decide)).trans h_mo_hasUnderlay
    have h_mo_pointX := (hn 31 (by decide)).trans h_mo_pointX
    have h_mo_pointY := (hn 32 (by decide)).trans h_mo_pointY
    have h_mo_crossing := (hn 33 (by decide)).trans h_mo_crossing
    have h_mo_kind := (hn 34 (by decide)).trans h_mo_kind
    have h_mo_byX := (hn 35 (by decide)).trans h_mo_byX
    have h_mo_byY := (hn 36 (by decide)).trans h_mo_byY
    have h_mo_fieldOf := (hn 37 (by decide)).trans h_mo_fieldOf
    have h_mo_isSewn := (hn 38 (by decide)).trans h_mo_isSewn
    have hbg : ∀ i : Nat, i ≠ 19 → i ≠ 31 → i ≠ 32 → i ≠ 33 → i ≠ 34 → i ≠ 35 → i ≠ 36 → i ≠ 37 → i ≠ 38 → σ86 i = σ0 i := fun i a0 a1 a2 a3 a4 a5 a6 a7 a8 => (hn i a0).trans (hbg i a0 a1 a2 a3 a4 a5 a6 a7 a8)
    refine lv_aload_n hx hb dX7_reckons_23 rfl (lv_at hl 0 rfl) ?_
    refine lv_iconst (v := zI 0) hx hb dX7_reckons_24 (by decide +kernel) ?_
    refine zput hx hb inlX7 tyX7 tyX7_ok nmX7 rfl 25 rfl zk_t4_138 rfl hts hown hK hH hk_mo h_mo rfl rfl rfl dX7_reckons_25 (fun σ87 Hσ87 lσ87 h_mo hn hH => ?_)
    have h_mo : σ87 19 = oC_mo ad mo_fields mo_bound mo_points mo_crossings 1 0 0 0 mo_hasFile mo_format mo_length mo_heads mo_late mo_ran mo_program mo_thrown mo_rowY mo_stitches := h_mo
    have h_mo_colour := (hn 20 (by decide)).trans h_mo_colour
    have h_mo_layer := (hn 21 (by decide)).trans h_mo_layer
    have h_mo_isColumn := (hn 22 (by decide)).trans h_mo_isColumn
    have h_mo_corners := (hn 23 (by decide)).trans h_mo_corners
    have h_mo_cornerX := (hn 24 (by decide)).trans h_mo_cornerX
    have h_mo_cornerY := (hn 25 (by decide)).trans h_mo_cornerY
    have h_mo_density := (hn 26 (by decide)).trans h_mo_density
    have h_mo_longest := (hn 27 (by decide)).trans h_mo_longest
    have h_mo_shift := (hn 28 (by decide)).trans h_mo_shift
    have h_mo_pull := (hn 29 (by decide)).trans h_mo_pull
    have h_mo_hasUnderlay := (hn 30 (by decide)).trans h_mo_hasUnderlay
    have h_mo_pointX := (hn 31 (by decide)).trans h_mo_pointX
    have h_mo_pointY := (hn 32 (by decide)).trans h_mo_pointY
    have h_mo_crossing := (hn 33 (by decide)).trans h_mo_crossing
    have h_mo_kind := (hn 34 (by decide)).trans h_mo_kind
    have h_mo_byX := (hn 35 (by decide)).trans h_mo_byX
    have h_mo_byY := (hn 36 (by decide)).trans h_mo_byY
    have h_mo_fieldOf := (hn 37 (by decide)).trans h_mo_fieldOf
    have h_mo_isSewn := (hn 38 (by decide)).trans h_mo_isSewn
    have hbg : ∀ i : Nat, i ≠ 19 → i ≠ 31 → i ≠ 32 → i ≠ 33 → i ≠ 34 → i ≠ 35 → i ≠ 36 → i ≠ 37 → i ≠ 38 → σ87 i = σ0 i := fun i a0 a1 a2 a3 a4 a5 a6 a7 a8 => (hn i a0).trans (hbg i a0 a1 a2 a3 a4 a5 a6 a7 a8)
    refine lv_iconst (v := zI 0) hx hb dX7_reckons_28 (by decide +kernel) ?_
    refine lv_istore_n (lv' := [(1, .int (zI 0)), (0, .ref (ad 19))]) hx hb dX7_reckons_29 rfl hl (by decide) rfl (fun ls hl => ?_)
    obtain ⟨w89, w90, k88, hf⟩ := zb2_some hf
    refine L30 mo_pointX mo_pointY mo_points mo_crossing mo_crossings 1 0 mo_kind mo_byX mo_byY mo_fieldOf 0 0 mo_rowY zFU 0 mo_isSewn w89 w90 k88 _ _ _ hH h_mo h_mo_colour h_mo_layer h_mo_isColumn h_mo_corners h_mo_cornerX h_mo_cornerY h_mo_density h_mo_longest h_mo_shift h_mo_pull h_mo_hasUnderlay h_mo_pointX h_mo_pointY h_mo_crossing h_mo_kind h_mo_byX h_mo_byY h_mo_fieldOf h_mo_isSewn hbg _ (lv_sub hl [1, 0] rfl) (fun σ91 Hσ91 lσ91 hH h_mo h_mo_colour h_mo_layer h_mo_isColumn h_mo_corners h_mo_cornerX h_mo_cornerY h_mo_density h_mo_longest h_mo_shift h_mo_pull h_mo_hasUnderlay h_mo_pointX h_mo_pointY h_mo_crossing h_mo_kind h_mo_byX h_mo_byY h_mo_fieldOf h_mo_isSewn hbg ls hl => ?_)
    refine lv_iconst (v := zI (-1)) hx hb dX7_reckons_51 (by decide +kernel) ?_
    refine lv_istore_n (lv' := [(1, .int (zI (-1))), (0, .ref (ad 19))]) hx hb dX7_reckons_52 rfl hl (by decide) rfl (fun ls hl => ?_)
    refine lv_iconst (v := zI 0) hx hb dX7_reckons_53 (by decide +kernel) ?_
    refine lv_istore_n (lv' := [(2, .int (zI 0)), (1, .int (zI (-1))), (0, .ref (ad 19))]) hx hb dX7_reckons_54 rfl hl (by decide) rfl (fun ls hl => ?_)
    obtain ⟨w93, w94, w95, w96, w97, w98, w99, w100, w101, w102, w103, w104, w105, w106, w107, w108, k92, hf⟩ := zb16_some hf
    refine L55 1 zFU (-1) 0 mo_pointX mo_pointY mo_points mo_crossing mo_crossings 0 mo_kind mo_byX mo_byY mo_fieldOf 0 0 w90 mo_rowY w93 w94 w95 w96 w97 w98 w99 w100 w101 w102 w103 w104 w105 w106 w107 w108 k92 _ _ _ hH h_mo h_mo_colour h_mo_layer h_mo_isColumn h_mo_corners h_mo_cornerX h_mo_cornerY h_mo_density h_mo_longest h_mo_shift h_mo_pull h_mo_hasUnderlay h_mo_pointX h_mo_pointY h_mo_crossing h_mo_kind h_mo_byX h_mo_byY h_mo_fieldOf h_mo_isSewn hbg _ (lv_sub hl [2, 1, 0] rfl) (fun σ109 Hσ109 lσ109 hH h_mo h_mo_colour h_mo_layer h_mo_isColumn h_mo_corners h_mo_cornerX h_mo_cornerY h_mo_density h_mo_longest h_mo_shift h_mo_pull h_mo_hasUnderlay h_mo_pointX h_mo_pointY h_mo_crossing h_mo_kind h_mo_byX h_mo_byY h_mo_fieldOf h_mo_isSewn hbg ls hl => ?_)
    refine lv_aload_n hx hb dX7_reckons_138 rfl (lv_at hl 0 rfl) ?_
    refine lv_iconst (v := zI 4) hx hb dX7_reckons_139 (by decide +kernel) ?_
    refine lv_iconst (v := zI 0) hx hb dX7_reckons_140 (by decide +kernel) ?_
    refine lv_iconst (v := zI 0) hx hb dX7_reckons_141 (by decide +kernel) ?_
    refine lv_iconst (v := zI (-1)) hx hb dX7_reckons_142 (by decide +kernel) ?_
    obtain ⟨u110, a111, a112, a113, a114, u115, u116, k117, hf⟩ := zb7_some hf
    refine zcVv (C := RX7) (As := [.int (zI 4), .int (zI 0), .int (zI 0), .int (zI (-1))]) (rest := []) hx hb hml hown hts hl.1 hK hH hA (c_X7_command hI hN  h_mo h_mo_kind h_mo_byX h_mo_byY h_mo_fieldOf k117) zk_t5_99 zk_t5_101 zk_s3_11 zk_t1_6 zk_t5_102 hd_X7_command rfl ⟨rfl, rfl, Nat.le_of_ble_eq_true rfl, Nat.le_of_ble_eq_true rfl⟩ ⟨Nat.zero_le _, Nat.zero_le _⟩ hk_mo h_mo rfl rfl rfl (Nat.le_of_ble_eq_true rfl) dX7_reckons_143 (fun σ118 Hσ118 lσ118 hp hH => ?_)
    obtain ⟨h_mo, h_mo_kind, h_mo_byX, h_mo_byY, h_mo_fieldOf, hn⟩ := hp
    have h_mo_colour := (hn 20 (by decide) (by decide) (by decide) (by decide) (by decide)).trans h_mo_colour
    have h_mo_layer := (hn 21 (by decide) (by decide) (by decide) (by decide) (by decide)).trans h_mo_layer
    have h_mo_isColumn := (hn 22 (by decide) (by decide) (by decide) (by decide) (by decide)).trans h_mo_isColumn
    have h_mo_corners := (hn 23 (by decide) (by decide) (by decide) (by decide) (by decide)).trans h_mo_corners
    have h_mo_cornerX := (hn 24 (by decide) (by decide) (by decide) (by decide) (by decide)).trans h_mo_cornerX
    have h_mo_cornerY := (hn 25 (by decide) (by decide) (by decide) (by decide) (by decide)).trans h_mo_cornerY
    have h_mo_density := (hn 26 (by decide) (by decide) (by decide) (by decide) (by decide)).trans h_mo_density
    have h_mo_longest := (hn 27 (by decide) (by decide) (by decide) (by decide) (by decide)).trans h_mo_longest
    have h_mo_shift := (hn 28 (by decide) (by decide) (by decide) (by decide) (by decide)).trans h_mo_shift
    have h_mo_pull := (hn 29 (by decide) (by decide) (by decide) (by decide) (by decide)).trans h_mo_pull
    have h_mo_hasUnderlay := (hn 30 (by decide) (by decide) (by decide) (by decide) (by decide)).trans h_mo_hasUnderlay
    have h_mo_pointX := (hn 31 (by decide) (by decide) (by decide) (by decide) (by decide)).trans h_mo_pointX
    have h_mo_pointY := (hn 32 (by decide) (by decide) (by decide) (by decide) (by decide)).trans h_mo_pointY
    have h_mo_crossing := (hn 33 (by decide) (by decide) (by decide) (by decide) (by decide)).trans h_mo_crossing
    have h_mo_isSewn := (hn 38 (by decide) (by decide) (by decide) (by decide) (by decide)).trans h_mo_isSewn
    have hbg : ∀ i : Nat, i ≠ 19 → i ≠ 31 → i ≠ 32 → i ≠ 33 → i ≠ 34 → i ≠ 35 → i ≠ 36 → i ≠ 37 → i ≠ 38 → σ118 i = σ0 i := fun i a0 a1 a2 a3 a4 a5 a6 a7 a8 => (hn i a0 a4 a5 a6 a7).trans (hbg i a0 a1 a2 a3 a4 a5 a6 a7 a8)
    cases hf
    exact zretv hx hb hr hlocks hQ hH ⟨h_mo, h_mo_pointX, h_mo_pointY, h_mo_crossing, h_mo_kind, h_mo_byX, h_mo_byY, h_mo_fieldOf, h_mo_isSewn, hbg⟩ dX7_reckons_146
  · replace hf := (if_neg c83).symm.trans hf
    cases hf
    exact zretv hx hb hr hlocks hQ hH ⟨h_mo, h_mo_pointX, h_mo_pointY, h_mo_crossing, h_mo_kind, h_mo_byX, h_mo_byY, h_mo_fieldOf, h_mo_isSewn, hbg⟩ dX7_reckons_7
abbrev rmX7_commands : Room := { frames := 6, cells := 0, slots := 0, locals := 150 }
theorem hd_X7_commands : yX7_commands.cls = RX7 ∧ yX7_commands.cls ≠ "java/lang/invoke/MethodHandle" ∧ yX7_commands.cls ≠ "java/lang/invoke/VarHandle" ∧ (parseMethodDescriptor yX7_commands.desc).map (fun d => d.parameters.length) = some 0 := by decide +kernel
set_option maxHeartbeats 4000000 in
set_option maxRecDepth 100000 in
theorem c_X7_commands {l : Launch} {D : va_G} {cI cZ cF cL cD : ClassId} {ad : Nat → Nat} {N : Nat} (hI : ∀ i j, i < N → j < N → ad i = ad j → i = j) (hN : 46 ≤ N) {σ0 : Nat → va_E} {sz : Nat} {mo_fields : Int} {mo_colour : Int → Int} {mo_layer : Int → Int} {mo_isColumn : Int → Int} {mo_corners : Int → Int} {mo_cornerX : Int → Int} {mo_cornerY : Int → Int} {mo_density : Int → Int} {mo_longest : Int → Int} {mo_shift : Int → Int} {mo_pull : Int → Int} {mo_hasUnderlay : Int → Int} {mo_bound : Int} {mo_pointX : Int → Int} {mo_pointY : Int → Int} {mo_points : Int} {mo_crossing : Int → Int} {mo_crossings : Int} {mo_isKnown : Int} {mo_commands : Int} {mo_kind : Int → Int} {mo_byX : Int → Int} {mo_byY : Int → Int} {mo_fieldOf : Int → Int} {mo_needleX : Int} {mo_needleY : Int} {mo_isSewn : Int → Int} {mo_hasFile : Int} {mo_format : Int} {mo_length : Int} {mo_heads : Int} {mo_late : Int} {mo_ran : Int} {mo_program : Int} {mo_thrown : Int} {mo_rowY : Int} {mo_stitches : Int} {R0 : Int} {R_mo_pointX : Int → Int} {R_mo_pointY : Int → Int} {R_mo_points : Int} {R_mo_crossing : Int → Int} {R_mo_crossings : Int} {R_mo_isKnown : Int} {R_mo_commands : Int} {R_mo_kind : Int → Int} {R_mo_byX : Int → Int} {R_mo_byY : Int → Int} {R_mo_fieldOf : Int → Int} {R_mo_needleX : Int} {R_mo_needleY : Int} {R_mo_isSewn : Int → Int} {R_mo_thrown : Int} {R_mo_rowY : Int} (h_mo : σ0 19 = oC_mo ad mo_fields mo_bound mo_points mo_crossings mo_isKnown mo_commands mo_needleX mo_needleY mo_hasFile mo_format mo_length mo_heads mo_late mo_ran mo_program mo_thrown mo_rowY mo_stitches) (h_mo_colour : σ0 20 = .inl (cI, 8, .inl (zA mo_colour))) (h_mo_layer : σ0 21 = .inl (cI, 8, .inl (zA mo_layer))) (h_mo_isColumn : σ0 22 = .inl (cZ, 8, .inl (zA mo_isColumn))) (h_mo_corners : σ0 23 = .inl (cI, 8, .inl (zA mo_corners))) (h_mo_cornerX : σ0 24 = .inl (cI, 64, .inl (zA mo_cornerX))) (h_mo_cornerY : σ0 25 = .inl (cI, 64, .inl (zA mo_cornerY))) (h_mo_density : σ0 26 = .inl (cI, 8, .inl (zA mo_density))) (h_mo_longest : σ0 27 = .inl (cI, 8, .inl (zA mo_longest))) (h_mo_shift : σ0 28 = .inl (cI, 8, .inl (zA mo_shift))) (h_mo_pull : σ0 29 = .inl (cI, 8, .inl (zA mo_pull))) (h_mo_hasUnderlay : σ0 30 = .inl (cZ, 8, .inl (zA mo_hasUnderlay))) (h_mo_pointX : σ0 31 = .inl (cI, 4096, .inl (zA mo_pointX))) (h_mo_pointY : σ0 32 = .inl (cI, 4096, .inl (zA mo_pointY))) (h_mo_crossing : σ0 33 = .inl (cI, 8, .inl (zA mo_crossing))) (h_mo_kind : σ0 34 = .inl (cI, 20000, .inl (zA mo_kind))) (h_mo_byX : σ0 35 = .inl (cI, 20000, .inl (zA mo_byX))) (h_mo_byY : σ0 36 = .inl (cI, 20000, .inl (zA mo_byY))) (h_mo_fieldOf : σ0 37 = .inl (cI, 20000, .inl (zA mo_fieldOf))) (h_mo_isSewn : σ0 38 = .inl (cZ, 8, .inl (zA mo_isSewn))) (hf : f_X7_commands mo_fields mo_colour mo_layer mo_isColumn mo_corners mo_cornerX mo_cornerY mo_density mo_longest mo_shift mo_pull mo_hasUnderlay mo_bound mo_pointX mo_pointY mo_points mo_crossing mo_crossings mo_isKnown mo_commands mo_kind mo_byX mo_byY mo_fieldOf mo_needleX mo_needleY mo_isSewn mo_thrown mo_rowY = some (R0, R_mo_pointX, R_mo_pointY, R_mo_points, R_mo_crossing, R_mo_crossings, R_mo_isKnown, R_mo_commands, R_mo_kind, R_mo_byX, R_mo_byY, R_mo_fieldOf, R_mo_needleX, R_mo_needleY, R_mo_isSewn, R_mo_thrown, R_mo_rowY)) :
    Met l yX7_commands (Cond.code yX7_commands cX7_commands 1 (some .int) :: wsL_law) rmX7_commands (zPre D ad N (zT cI cZ cF cL cD) σ0 sz [.ref (ad 19)]) (zQi D ad N sz (fun r σ' => r = zI R0 ∧ σ' 19 = oC_mo ad mo_fields mo_bound R_mo_points R_mo_crossings R_mo_isKnown R_mo_commands R_mo_needleX R_mo_needleY mo_hasFile mo_format mo_length mo_heads mo_late mo_ran mo_program R_mo_thrown R_mo_rowY mo_stitches ∧ σ' 31 = .inl (cI, 4096, .inl (zA R_mo_pointX)) ∧ σ' 32 = .inl (cI, 4096, .inl (zA R_mo_pointY)) ∧ σ' 33 = .inl (cI, 8, .inl (zA R_mo_crossing)) ∧ σ' 34 = .inl (cI, 20000, .inl (zA R_mo_kind)) ∧ σ' 35 = .inl (cI, 20000, .inl (zA R_mo_byX)) ∧ σ' 36 = .inl (cI, 20000, .inl (zA R_mo_byY)) ∧ σ' 37 = .inl (cI, 20000, .inl (zA R_mo_fieldOf)) ∧ σ' 38 = .inl (cZ, 8, .inl (zA R_mo_isSewn)) ∧ ∀ i : Nat, i ≠ 19 → i ≠ 31 → i ≠ 32 → i ≠ 33 → i ≠ 34 → i ≠ 35 → i ≠ 36 → i ≠ 37 → i ≠ 38 → σ' i = σ0 i)) 0 0 (zFr ad N sz) := by
  refine zMet hI (plainFor_of_name (by decide)) (Nat.le_of_ble_eq_true rfl) ⟨rfl, rfl⟩ ?_
  intro p e s m args below meth c Q hx hb hr hlocks hml hown hts hK hsz hQ hH hA ls hl
  subst hsz
  have hk_mo : 19 < N := by omega
  have hk_mo_colour : 20 < N := by omega
  have hk_mo_layer : 21 < N := by omega
  have hk_mo_isColumn : 22 < N := by omega
  have hk_mo_corners : 23 < N := by omega
  have hk_mo_cornerX : 24 < N := by omega
  have hk_mo_cornerY : 25 < N := by omega
  have hk_mo_density : 26 < N := by omega
  have hk_mo_longest : 27 < N := by omega
  have hk_mo_shift : 28 < N := by omega
  have hk_mo_pull : 29 < N := by omega
  have hk_mo_hasUnderlay : 30 < N := by omega
  have hk_mo_pointX : 31 < N := by omega
  have hk_mo_pointY : 32 < N := by omega
  have hk_mo_crossing : 33 < N := by omega
  have hk_mo_kind : 34 < N := by omega
  have hk_mo_byX : 35 < N := by omega
  have hk_mo_byY : 36 < N := by omega
  have hk_mo_fieldOf : 37 < N := by omega
  have hk_mo_isSewn : 38 < N := by omega
  have hl : lv_has ls 1 [(0, .ref (ad 19))] := hl
  have hbg : ∀ i : Nat, i ≠ 19 → i ≠ 31 → i ≠ 32 → i ≠ 33 → i ≠ 34 → i ≠ 35 → i ≠ 36 → i ≠ 37 → i ≠ 38 → σ0 i = σ0 i := fun _ _ _ _ _ _ _ _ _ _ => rfl
  unfold f_X7_commands at hf
  refine lv_aload_n hx hb dX7_commands_0 rfl (lv_at hl 0 rfl) ?_
  refine lv_iconst (v := zI 0) hx hb dX7_commands_1 (by decide +kernel) ?_
  refine zput hx hb inlX7 tyX7 tyX7_ok nmX7 rfl 39 rfl zk_t4_152 rfl hts hown hK hH hk_mo h_mo rfl rfl rfl dX7_commands_2 (fun σ1 Hσ1 lσ1 h_mo hn hH => ?_)
  have h_mo : σ1 19 = oC_mo ad mo_fields mo_bound mo_points mo_crossings mo_isKnown mo_commands mo_needleX mo_needleY mo_hasFile mo_format mo_length mo_heads mo_late mo_ran mo_program 0 mo_rowY mo_stitches := h_mo
  have h_mo_colour := (hn 20 (by decide)).trans h_mo_colour
  have h_mo_layer := (hn 21 (by decide)).trans h_mo_layer
  have h_mo_isColumn := (hn 22 (by decide)).trans h_mo_isColumn
  have h_mo_corners := (hn 23 (by decide)).trans h_mo_corners
  have h_mo_cornerX := (hn 24 (by decide)).trans h_mo_cornerX
  have h_mo_cornerY := (hn 25 (by decide)).trans h_mo_cornerY
  have h_mo_density := (hn 26 (by decide)).trans h_mo_density
  have h_mo_longest := (hn 27 (by decide)).trans h_mo_longest
  have h_mo_shift := (hn 28 (by decide)).trans h_mo_shift
  have h_mo_pull := (hn 29 (by decide)).trans h_mo_pull
  have h_mo_hasUnderlay := (hn 30 (by decide)).trans h_mo_hasUnderlay
  have h_mo_pointX := (hn 31 (by decide)).trans h_mo_pointX
  have h_mo_pointY := (hn 32 (by decide)).trans h_mo_pointY
  have h_mo_crossing := (hn 33 (by decide)).trans h_mo_crossing
  have h_mo_kind := (hn 34 (by decide)).trans h_mo_kind
  have h_mo_byX := (hn 35 (by decide)).trans h_mo_byX
  have h_mo_byY := (hn 36 (by decide)).trans h_mo_byY
  have h_mo_fieldOf := (hn 37 (by decide)).trans h_mo_fieldOf
  have h_mo_isSewn := (hn 38 (by decide)).trans h_mo_isSewn
  have hbg : ∀ i : Nat, i ≠ 19 → i ≠ 31 → i ≠ 32 → i ≠ 33 → i ≠ 34 → i ≠ 35 → i ≠ 36 → i ≠ 37 → i ≠ 38 → σ1 i = σ0 i := fun i a0 a1 a2 a3 a4 a5 a6 a7 a8 => (hn i a0).trans (hbg i a0 a1 a2 a3 a4 a5 a6 a7 a8)
  refine lv_aload_n hx hb dX7_commands_5 rfl (lv_at hl 0 rfl) ?_
  obtain ⟨a2, a3, u4, a5, u6, u7, u8, a9, a10, a11, a12, u13, u14, a15, u16, k17, hf⟩ := zb15_some hf
  refine zcVv (C := RX7) (As := []) (rest := []) hx hb hml hown hts hl.1 hK hH hA (c_X7_reckons hI hN  h_mo h_mo_colour h_mo_layer h_mo_isColumn h_mo_corners h_mo_cornerX h_mo_cornerY h_mo_density h_mo_longest h_mo_shift h_mo_pull h_mo_hasUnderlay h_mo_pointX h_mo_pointY h_mo_crossing h_mo_kind h_mo_byX h_mo_byY h_mo_fieldOf h_mo_isSewn k17) zk_t5_43 zk_t5_45 zk_s3_0 zk_t1_6 zk_t5_46 hd_X7_reckons rfl ⟨rfl, rfl, Nat.le_of_ble_eq_true rfl, Nat.le_of_ble_eq_true rfl⟩ ⟨Nat.zero_le _, Nat.zero_le _⟩ hk_mo h_mo rfl rfl rfl (Nat.le_of_ble_eq_true rfl) dX7_commands_6 (fun σ18 Hσ18 lσ18 hp hH => ?_)
  obtain ⟨h_mo, h_mo_pointX, h_mo_pointY, h_mo_crossing, h_mo_kind, h_mo_byX, h_mo_byY, h_mo_fieldOf, h_mo_isSewn, hn⟩ := hp
  have h_mo_colour := (hn 20 (by decide) (by decide) (by decide) (by decide) (by decide) (by decide) (by decide) (by decide) (by decide)).trans h_mo_colour
  have h_mo_layer := (hn 21 (by decide) (by decide) (by decide) (by decide) (by decide) (by decide) (by decide) (by decide) (by decide)).trans h_mo_layer
  have h_mo_isColumn := (hn 22 (by decide) (by decide) (by decide) (by decide) (by decide) (by decide) (by decide) (by decide) (by decide)).trans h_mo_isColumn
  have h_mo_corners := (hn 23 (by decide) (by decide) (by decide) (by decide) (by decide) (by decide) (by decide) (by decide) (by decide)).trans h_mo_corners
  have h_mo_cornerX := (hn 24 (by decide) (by decide) (by decide) (by decide) (by decide) (by decide) (by decide) (by decide) (by decide)).trans h_mo_cornerX
  have h_mo_cornerY := (hn 25 (by decide) (by decide) (by decide) (by decide) (by decide) (by decide) (by decide) (by decide) (by decide)).trans h_mo_cornerY
  have h_mo_density := (hn 26 (by decide) (by decide) (by decide) (by decide) (by decide) (by decide) (by decide) (by decide) (by decide)).trans h_mo_density
  have h_mo_longest := (hn 27 (by decide) (by decide) (by decide) (by decide) (by decide) (by decide) (by decide) (by decide) (by decide)).trans h_mo_longest
  have h_mo_shift := (hn 28 (by decide) (by decide) (by decide) (by decide) (by decide) (by decide) (by decide) (by decide) (by decide)).trans h_mo_shift
  have h_mo_pull := (hn 29 (by decide) (by decide) (by decide) (by decide) (by decide) (by decide) (by decide) (by decide) (by decide)).trans h_mo_pull
  have h_mo_hasUnderlay := (hn 30 (by decide) (by decide) (by decide) (by decide) (by decide) (by decide) (by decide) (by decide) (by decide)).trans h_mo_hasUnderlay
  have hbg : ∀ i : Nat, i ≠ 19 → i ≠ 31 → i ≠ 32 → i ≠ 33 → i ≠ 34 → i ≠ 35 → i ≠ 36 → i ≠ 37 → i ≠ 38 → σ18 i = σ0 i := fun i a0 a1 a2 a3 a4 a5 a6 a7 a8 => (hn i a0 a1 a2 a3 a4 a5 a6 a7 a8).trans (hbg i a0 a1 a2 a3 a4 a5 a6 a7 a8)
  refine lv_aload_n hx hb dX7_commands_9 rfl (lv_at hl 0 rfl) ?_
  refine zget hx hb inlX7 rfl 19 rfl zk_t4_132 hts hown hK hH hk_mo h_mo rfl dX7_commands_10 ?_
  cases hf
  exact zreti hx hb hr hlocks hQ hH ⟨rfl, h_mo, h_mo_pointX, h_mo_pointY, h_mo_crossing, h_mo_kind, h_mo_byX, h_mo_byY, h_mo_fieldOf, h_mo_isSewn, hbg⟩ dX7_commands_13
abbrev rmX7_ofCommand : Room := { frames := 6, cells := 0, slots := 0, locals := 150 }
theorem hd_X7_ofCommand : yX7_ofCommand.cls = RX7 ∧ yX7_ofCommand.cls ≠ "java/lang/invoke/MethodHandle" ∧ yX7_ofCommand.cls ≠ "java/lang/invoke/VarHandle" ∧ (parseMethodDescriptor yX7_ofCommand.desc).map (fun d => d.parameters.length) = some 2 := by decide +kernel
set_option maxHeartbeats 4000000 in
set_option maxRecDepth 100000 in
theorem c_X7_ofCommand {l : Launch} {D : va_G} {cI cZ cF cL cD : ClassId} {ad : Nat → Nat} {N : Nat} (hI : ∀ i j, i < N → j < N → ad i = ad j → i = j) (hN : 46 ≤ N) {σ0 : Nat → va_E} {sz : Nat} {mo_fields : Int} {mo_colour : Int → Int} {mo_layer : Int → Int} {mo_isColumn : Int → Int} {mo_corners : Int → Int} {mo_cornerX : Int → Int} {mo_cornerY : Int → Int} {mo_density : Int → Int} {mo_longest : Int → Int} {mo_shift : Int → Int} {mo_pull : Int → Int} {mo_hasUnderlay : Int → Int} {mo_bound : Int} {mo_pointX : Int → Int} {mo_pointY : Int → Int} {mo_points : Int} {mo_crossing : Int → Int} {mo_crossings : Int} {mo_isKnown : Int} {mo_commands : Int} {mo_kind : Int → Int} {mo_byX : Int → Int} {mo_byY : Int → Int} {mo_fieldOf : Int → Int} {mo_needleX : Int} {mo_needleY : Int} {mo_isSewn : Int → Int} {mo_hasFile : Int} {mo_format : Int} {mo_length : Int} {mo_heads : Int} {mo_late : Int} {mo_ran : Int} {mo_program : Int} {mo_thrown : Int} {mo_rowY : Int} {mo_stitches : Int} {p1 : Int} {p2 : Int} {R0 : Int} {R_mo_pointX : Int → Int} {R_mo_pointY : Int → Int} {R_mo_points : Int} {R_mo_crossing : Int → Int} {R_mo_crossings : Int} {R_mo_isKnown : Int} {R_mo_commands : Int} {R_mo_kind : Int → Int} {R_mo_byX : Int → Int} {R_mo_byY : Int → Int} {R_mo_fieldOf : Int → Int} {R_mo_needleX : Int} {R_mo_needleY : Int} {R_mo_isSewn : Int → Int} {R_mo_thrown : Int} {R_mo_rowY : Int} (h_mo : σ0 19 = oC_mo ad mo_fields mo_bound mo_points mo_crossings mo_isKnown mo_commands mo_needleX mo_needleY mo_hasFile mo_format mo_length mo_heads mo_late mo_ran mo_program mo_thrown mo_rowY mo_stitches) (h_mo_colour : σ0 20 = .inl (cI, 8, .inl (zA mo_colour))) (h_mo_layer : σ0 21 = .inl (cI, 8, .inl (zA mo_layer))) (h_mo_isColumn : σ0 22 = .inl (cZ, 8, .inl (zA mo_isColumn))) (h_mo_corners : σ0 23 = .inl (cI, 8, .inl (zA mo_corners))) (h_mo_cornerX : σ0 24 = .inl (cI, 64, .inl (zA mo_cornerX))) (h_mo_cornerY : σ0 25 = .inl (cI, 64, .inl (zA mo_cornerY))) (h_mo_density : σ0 26 = .inl (cI, 8, .inl (zA mo_density))) (h_mo_longest : σ0 27 = .inl (cI, 8, .inl (zA mo_longest))) (h_mo_shift : σ0 28 = .inl (cI, 8, .inl (zA mo_shift))) (h_mo_pull : σ0 29 = .inl (cI, 8, .inl (zA mo_pull))) (h_mo_hasUnderlay : σ0 30 = .inl (cZ, 8, .inl (zA mo_hasUnderlay))) (h_mo_pointX : σ0 31 = .inl (cI, 4096, .inl (zA mo_pointX))) (h_mo_pointY : σ0 32 = .inl (cI, 4096, .inl (zA mo_pointY))) (h_mo_crossing : σ0 33 = .inl (cI, 8, .inl (zA mo_crossing))) (h_mo_kind : σ0 34 = .inl (cI, 20000, .inl (zA mo_kind))) (h_mo_byX : σ0 35 = .inl (cI, 20000, .inl (zA mo_byX))) (h_mo_byY : σ0 36 = .inl (cI, 20000, .inl (zA mo_byY))) (h_mo_fieldOf : σ0 37 = .inl (cI, 20000, .inl (zA mo_fieldOf))) (h_mo_isSewn : σ0 38 = .inl (cZ, 8, .inl (zA mo_isSewn))) (hf : f_X7_ofCommand mo_fields mo_colour mo_layer mo_isColumn mo_corners mo_cornerX mo_cornerY mo_density mo_longest mo_shift mo_pull mo_hasUnderlay mo_bound mo_pointX mo_pointY mo_points mo_crossing mo_crossings mo_isKnown mo_commands mo_kind mo_byX mo_byY mo_fieldOf mo_needleX mo_needleY mo_isSewn mo_thrown mo_rowY p1 p2 = some (R0, R_mo_pointX, R_mo_pointY, R_mo_points, R_mo_crossing, R_mo_crossings, R_mo_isKnown, R_mo_commands, R_mo_kind, R_mo_byX, R_mo_byY, R_mo_fieldOf, R_mo_needleX, R_mo_needleY, R_mo_isSewn, R_mo_thrown, R_mo_rowY)) :
    Met l yX7_ofCommand (Cond.code yX7_ofCommand cX7_ofCommand 3 (some .int) :: wsL_law) rmX7_ofCommand (zPre D ad N (zT cI cZ cF cL cD) σ0 sz [.ref (ad 19), .int (zI p1), .int (zI p2)]) (zQi D ad N sz (fun r σ' => r = zI R0 ∧ σ' 19 = oC_mo ad mo_fields mo_bound R_mo_points R_mo_crossings R_mo_isKnown R_mo_commands R_mo_needleX R_mo_needleY mo_hasFile mo_format mo_length mo_heads mo_late mo_ran mo_program R_mo_thrown R_mo_rowY mo_stitches ∧ σ' 31 = .inl (cI, 4096, .inl (zA R_mo_pointX)) ∧ σ' 32 = .inl (cI, 4096, .inl (zA R_mo_pointY)) ∧ σ' 33 = .inl (cI, 8, .inl (zA R_mo_crossing)) ∧ σ' 34 = .inl (cI, 20000, .inl (zA R_mo_kind)) ∧ σ' 35 = .inl (cI, 20000, .inl (zA R_mo_byX)) ∧ σ' 36 = .inl (cI, 20000, .inl (zA R_mo_byY)) ∧ σ' 37 = .inl (cI, 20000, .inl (zA R_mo_fieldOf)) ∧ σ' 38 = .inl (cZ, 8, .inl (zA R_mo_isSewn)) ∧ ∀ i : Nat, i ≠ 19 → i ≠ 31 → i ≠ 32 → i ≠ 33 → i ≠ 34 → i ≠ 35 → i ≠ 36 → i ≠ 37 → i ≠ 38 → σ' i = σ0 i)) 0 0 (zFr ad N sz) := by
  refine zMet hI (plainFor_of_name (by decide)) (Nat.le_of_ble_eq_true rfl) ⟨rfl, rfl⟩ ?_
  intro p e s m args below meth c Q hx hb hr hlocks hml hown hts hK hsz hQ hH hA ls hl
  subst hsz
  have hk_mo : 19 < N := by omega
  have hk_mo_colour : 20 < N := by omega
  have hk_mo_layer : 21 < N := by omega
  have hk_mo_isColumn : 22 < N := by omega
  have hk_mo_corners : 23 < N := by omega
  have hk_mo_cornerX : 24 < N := by omega
  have hk_mo_cornerY : 25 < N := by omega
  have hk_mo_density : 26 < N := by omega
  have hk_mo_longest : 27 < N := by omega
  have hk_mo_shift : 28 < N := by omega
  have hk_mo_pull : 29 < N := by omega
  have hk_mo_hasUnderlay : 30 < N := by omega
  have hk_mo_pointX : 31 < N := by omega
  have hk_mo_pointY : 32 < N := by omega
  have hk_mo_crossing : 33 < N := by omega
  have hk_mo_kind : 34 < N := by omega
  have hk_mo_byX : 35 < N := by omega
  have hk_mo_byY : 36 < N := by omega
  have hk_mo_fieldOf : 37 < N := by omega
  have hk_mo_isSewn : 38 < N := by omega
  have hl : lv_has ls 3 [(0, .ref (ad 19)), (1, .int (zI p1)), (2, .int (zI p2))] := hl
  have hbg : ∀ i : Nat, i ≠ 19 → i ≠ 31 → i ≠ 32 → i ≠ 33 → i ≠ 34 → i ≠ 35 → i ≠ 36 → i ≠ 37 → i ≠ 38 → σ0 i = σ0 i := fun _ _ _ _ _ _ _ _ _ _ => rfl
  unfold f_X7_ofCommand at hf
  refine lv_aload_n hx hb dX7_ofCommand_0 rfl (lv_at hl 0 rfl) ?_
  obtain ⟨a1, a2, u3, a4, u5, u6, u7, a8, a9, a10, a11, u12, u13, a14, u15, k16, hf⟩ := zb15_some hf
  refine zcVv (C := RX7) (As := []) (rest := []) hx hb hml hown hts hl.1 hK hH hA (c_X7_reckons hI hN  h_mo h_mo_colour h_mo_layer h_mo_isColumn h_mo_corners h_mo_cornerX h_mo_cornerY h_mo_density h_mo_longest h_mo_shift h_mo_pull h_mo_hasUnderlay h_mo_pointX h_mo_pointY h_mo_crossing h_mo_kind h_mo_byX h_mo_byY h_mo_fieldOf h_mo_isSewn k16) zk_t5_43 zk_t5_45 zk_s3_0 zk_t1_6 zk_t5_46 hd_X7_reckons rfl ⟨rfl, rfl, Nat.le_of_ble_eq_true rfl, Nat.le_of_ble_eq_true rfl⟩ ⟨Nat.zero_le _, Nat.zero_le _⟩ hk_mo h_mo rfl rfl rfl (Nat.le_of_ble_eq_true rfl) dX7_ofCommand_1 (fun σ17 Hσ17 lσ17 hp hH => ?_)
  obtain ⟨h_mo, h_mo_pointX, h_mo_pointY, h_mo_crossing, h_mo_kind, h_mo_byX, h_mo_byY, h_mo_fieldOf, h_mo_isSewn, hn⟩ := hp
  have h_mo_colour := (hn 20 (by decide) (by decide) (by decide) (by decide) (by decide) (by decide) (by decide) (by decide) (by decide)).trans h_mo_colour
  have h_mo_layer := (hn 21 (by decide) (by decide) (by decide) (by decide) (by decide) (by decide) (by decide) (by decide) (by decide)).trans h_mo_layer
  have h_mo_isColumn := (hn 22 (by decide) (by decide) (by decide) (by decide) (by decide) (by decide) (by decide) (by decide) (by decide)).trans h_mo_isColumn
  have h_mo_corners := (hn 23 (by decide) (by decide) (by decide) (by decide) (by decide) (by decide) (by decide) (by decide) (by decide)).trans h_mo_corners
  have h_mo_cornerX := (hn 24 (by decide) (by decide) (by decide) (by decide) (by decide) (by decide) (by decide) (by decide) (by decide)).trans h_mo_cornerX
  have h_mo_cornerY := (hn 25 (by decide) (by decide) (by decide) (by decide) (by decide) (by decide) (by decide) (by decide) (by decide)).trans h_mo_cornerY
  have h_mo_density := (hn 26 (by decide) (by decide) (by decide) (by decide) (by decide) (by decide) (by decide) (by decide) (by decide)).trans h_mo_density
  have h_mo_longest := (hn 27 (by decide) (by decide) (by decide) (by decide) (by decide) (by decide) (by decide) (by decide) (by decide)).trans h_mo_longest
  have h_mo_shift := (hn 28 (by decide) (by decide) (by decide) (by decide) (by decide) (by decide) (by decide) (by decide) (by decide)).trans h_mo_shift
  have h_mo_pull := (hn 29 (by decide) (by decide) (by decide) (by decide) (by decide) (by decide) (by decide) (by decide) (by decide)).trans h_mo_pull
  have h_mo_hasUnderlay := (hn 30 (by decide) (by decide) (by decide) (by decide) (by decide) (by decide) (by decide) (by decide) (by decide)).trans h_mo_hasUnderlay
  have hbg : ∀ i : Nat, i ≠ 19 → i ≠ 31 → i ≠ 32 → i ≠ 33 → i ≠ 34 → i ≠ 35 → i ≠ 36 → i ≠ 37 → i ≠ 38 → σ17 i = σ0 i := fun i a0 a1 a2 a3 a4 a5 a6 a7 a8 => (hn i a0 a1 a2 a3 a4 a5 a6 a7 a8).trans (hbg i a0 a1 a2 a3 a4 a5 a6 a7 a8)
  refine lv_aload_n hx hb dX7_ofCommand_4 rfl (lv_at hl 0 rfl) ?_
  refine lv_iload_n hx hb dX7_ofCommand_5 rfl (lv_at hl 1 rfl) ?_
  refine lv_iconst (v := zI 0) hx hb dX7_ofCommand_6 (by decide +kernel) ?_
  refine lv_aload_n hx hb dX7_ofCommand_7 rfl (lv_at hl 0 rfl) ?_
  refine zget hx hb inlX7 rfl 19 rfl zk_t4_132 hts hown hK hH hk_mo h_mo rfl dX7_ofCommand_8 ?_
  refine lv_iconst (v := zI 1) hx hb dX7_ofCommand_11 (by decide +kernel) ?_
  refine lz_isub hx hb dX7_ofCommand_12 ?_
  obtain ⟨r18, k19, hf⟩ := zb1_some hf
  refine zcSi (As := [.int (zI p1), .int (zI 0), .int (zI (u7 - 1))]) (rest := [.ref (ad 19)]) hx hb hml hown hts hl.1 hK hH hA (c_X7_in hI hN   k19) zk_t5_8 zk_t5_9 zk_t1_6 zk_t5_10 hd_X7_in rfl ⟨rfl, rfl, Nat.le_of_ble_eq_true rfl, Nat.le_of_ble_eq_true rfl⟩ ⟨Nat.zero_le _, Nat.zero_le _⟩ rfl (Nat.le_of_ble_eq_true rfl) dX7_ofCommand_13 (fun q21 σ20 Hσ20 lσ20 hp hH => ?_)
  obtain ⟨hr1, hs1⟩ := hp; subst hr1; rw [hs1] at hH
  obtain ⟨r22, u23, k24, hf⟩ := zb2_some hf
  refine zcVi (C := RX7) (As := [.int (zI r18)]) (rest := []) hx hb hml hown hts hl.1 hK hH hA (c_X7_asks hI hN  h_mo k24) zk_t5_11 zk_t5_13 zk_s2_13 zk_t1_6 zk_t5_14 hd_X7_asks rfl ⟨rfl, rfl, Nat.le_of_ble_eq_true rfl, Nat.le_of_ble_eq_true rfl⟩ ⟨Nat.zero_le _, Nat.zero_le _⟩ hk_mo h_mo rfl rfl rfl (Nat.le_of_ble_eq_true rfl) dX7_ofCommand_16 (fun q26 σ25 Hσ25 lσ25 hp hH => ?_)
  obtain ⟨hr1, h_mo, hn⟩ := hp
  subst hr1
  have h_mo_colour := (hn 20 (by decide)).trans h_mo_colour
  have h_mo_layer := (hn 21 (by decide)).trans h_mo_layer
  have h_mo_isColumn := (hn 22 (by decide)).trans h_mo_isColumn
  have h_mo_corners := (hn 23 (by decide)).trans h_mo_corners
  have h_mo_cornerX := (hn 24 (by decide)).trans h_mo_cornerX
  have h_mo_cornerY := (hn 25 (by decide)).trans h_mo_cornerY
  have h_mo_density := (hn 26 (by decide)).trans h_mo_density
  have h_mo_longest := (hn 27 (by decide)).trans h_mo_longest
  have h_mo_shift := (hn 28 (by decide)).trans h_mo_shift
  have h_mo_pull := (hn 29 (by decide)).trans h_mo_pull
  have h_mo_hasUnderlay := (hn 30 (by decide)).trans h_mo_hasUnderlay
  have h_mo_pointX := (hn 31 (by decide)).trans h_mo_pointX
  have h_mo_pointY := (hn 32 (by decide)).trans h_mo_pointY
  have h_mo_crossing := (hn 33 (by decide)).trans h_mo_crossing
  have h_mo_kind := (hn 34 (by decide)).trans h_mo_kind
  have h_mo_byX := (hn 35 (by decide)).trans h_mo_byX
  have h_mo_byY := (hn 36 (by decide)).trans h_mo_byY
  have h_mo_fieldOf := (hn 37 (by decide)).trans h_mo_fieldOf
  have h_mo_isSewn := (hn 38 (by decide)).trans h_mo_isSewn
  have hbg : ∀ i : Nat, i ≠ 19 → i ≠ 31 → i ≠ 32 → i ≠ 33 → i ≠ 34 → i ≠ 35 → i ≠ 36 → i ≠ 37 → i ≠ 38 → σ25 i = σ0 i := fun i a0 a1 a2 a3 a4 a5 a6 a7 a8 => (hn i a0).trans (hbg i a0 a1 a2 a3 a4 a5 a6 a7 a8)
  obtain ⟨k27, hf⟩ := zck_some hf
  refine lz_if_ne (tgt := 24) hx hb k27 dX7_ofCommand_19 (by decide) (fun c28 => ?_) (fun c28 => ?_)
  · replace hf := (if_neg c28).symm.trans hf
    refine lv_iload_n hx hb dX7_ofCommand_24 rfl (lv_at hl 2 rfl) ?_
    obtain ⟨k29, hf⟩ := zck_some hf
    by_cases c30_0 : p2 = 0
    · replace hf := (if_pos c30_0).symm.trans hf
      refine lv_tableIn (tgt := 56) (off := 31) hx hb dX7_ofCommand_25 (by rw [zI_toInt k29]; omega) (by rw [zI_toInt k29]; omega) (by rw [zI_toInt k29, c30_0]; rfl) (by decide) ?_
      refine lv_aload_n hx hb dX7_ofCommand_56 rfl (lv_at hl 0 rfl) ?_
      refine zget hx hb inlX7 rfl 20 rfl zk_t4_133 hts hown hK hH hk_mo h_mo rfl dX7_ofCommand_57 ?_
      refine lv_iload_n hx hb dX7_ofCommand_60 rfl (lv_at hl 1 rfl) ?_
      obtain ⟨k31, hf⟩ := zck_some hf
      refine ziald hx hb hK hH hk_mo_kind 0 h_mo_kind rfl k31 rfl dX7_ofCommand_61 ?_
      cases hf
      exact zreti hx hb hr hlocks hQ hH ⟨rfl, h_mo, h_mo_pointX, h_mo_pointY, h_mo_crossing, h_mo_kind, h_mo_byX, h_mo_byY, h_mo_fieldOf, h_mo_isSewn, hbg⟩ dX7_ofCommand_62
    replace hf := (if_neg c30_0).symm.trans hf
    by_cases c30_1 : p2 = 1
    · replace hf := (if_pos c30_1).symm.trans hf
      refine lv_tableIn (tgt := 63) (off := 38) hx hb dX7_ofCommand_25 (by rw [zI_toInt k29]; omega) (by rw [zI_toInt k29]; omega) (by rw [zI_toInt k29, c30_1]; rfl) (by decide) ?_
      refine lv_aload_n hx hb dX7_ofCommand_63 rfl (lv_at hl 0 rfl) ?_
      refine zget hx hb inlX7 rfl 21 rfl zk_t4_134 hts hown hK hH hk_mo h_mo rfl dX7_ofCommand_64 ?_
      refine lv_iload_n hx hb dX7_ofCommand_67 rfl (lv_at hl 1 rfl) ?_
      obtain ⟨k32, hf⟩ := zck_some hf
      refine ziald hx hb hK hH hk_mo_byX 0 h_mo_byX rfl k32 rfl dX7_ofCommand_68 ?_
      cases hf
      exact zreti hx hb hr hlocks hQ hH ⟨rfl, h_mo, h_mo_pointX, h_mo_pointY, h_mo_crossing, h_mo_kind, h_mo_byX, h_mo_byY, h_mo_fieldOf, h_mo_isSewn, hbg⟩ dX7_ofCommand_69
    replace hf := (if_neg c30_1).symm.trans hf
    by_cases c30_2 : p2 = 2
    · replace hf := (if_pos c30_2).symm.trans hf
      refine lv_tableIn (tgt := 70) (off := 45) hx hb dX7_ofCommand_25 (by rw [zI_toInt k29]; omega) (by rw [zI_toInt k29]; omega) (by rw [zI_toInt k29, c30_2]; rfl) (by decide) ?_
      refine lv_aload_n hx hb dX7_ofCommand_70 rfl (lv_at hl 0 rfl) ?_
      refine zget hx hb inlX7 rfl 22 rfl zk_t4_135 hts hown hK hH hk_mo h_mo rfl dX7_ofCommand_71 ?_
      refine lv_iload_n hx hb dX7_ofCommand_74 rfl (lv_at hl 1 rfl) ?_
      obtain ⟨k33, hf⟩ := zck_some hf
      refine ziald hx hb hK hH hk_mo_byY 0 h_mo_byY rfl k33 rfl dX7_ofCommand_75 ?_
      cases hf
      exact zreti hx hb hr hlocks hQ hH ⟨rfl, h_mo, h_mo_pointX, h_mo_pointY, h_mo_crossing, h_mo_kind, h_mo_byX, h_mo_byY, h_mo_fieldOf, h_mo_isSewn, hbg⟩ dX7_ofCommand_76
    replace hf := (if_neg c30_2).symm.trans hf
    by_cases c30_3 : p2 = 3
    · replace hf := (if_pos c30_3).symm.trans hf
      refine lv_tableIn (tgt := 77) (off := 52) hx hb dX7_ofCommand_25 (by rw [zI_toInt k29]; omega) (by rw [zI_toInt k29]; omega) (by rw [zI_toInt k29, c30_3]; rfl) (by decide) ?_
      refine lv_aload_n hx hb dX7_ofCommand_77 rfl (lv_at hl 0 rfl) ?_
      refine zget hx hb inlX7 rfl 23 rfl zk_t4_136 hts hown hK hH hk_mo h_mo rfl dX7_ofCommand_78 ?_
      refine lv_iload_n hx hb dX7_ofCommand_81 rfl (lv_at hl 1 rfl) ?_
      obtain ⟨k34, hf⟩ := zck_some hf
      refine ziald hx hb hK hH hk_mo_fieldOf 0 h_mo_fieldOf rfl k34 rfl dX7_ofCommand_82 ?_
      cases hf
      exact zreti hx hb hr hlocks hQ hH ⟨rfl, h_mo, h_mo_pointX, h_mo_pointY, h_mo_crossing, h_mo_kind, h_mo_byX, h_mo_byY, h_mo_fieldOf, h_mo_isSewn, hbg⟩ dX7_ofCommand_83
    replace hf := (if_neg c30_3).symm.trans hf
    refine lv_tableOut (tgt := 84) hx hb dX7_ofCommand_25 (by rw [zI_toInt k29]; omega) (by decide) ?_
    refine lv_aload_n hx hb dX7_ofCommand_84 rfl (lv_at hl 0 rfl) ?_
    refine lv_iconst (v := zI 2) hx hb dX7_ofCommand_85 (by decide +kernel) ?_
    obtain ⟨r35, u36, k37, hf⟩ := zb2_some hf
    refine zcVi (C := RX7) (As := [.int (zI 2)]) (rest := []) hx hb hml hown hts hl.1 hK hH hA (c_X7_fails hI hN  h_mo k37) zk_t5_15 zk_t5_17 zk_s2_14 zk_t1_6 zk_t5_18 hd_X7_fails rfl ⟨rfl, rfl, Nat.le_of_ble_eq_true rfl, Nat.le_of_ble_eq_true rfl⟩ ⟨Nat.zero_le _, Nat.zero_le _⟩ hk_mo h_mo rfl rfl rfl (Nat.le_of_ble_eq_true rfl) dX7_ofCommand_86 (fun q39 σ38 Hσ38 lσ38 hp hH => ?_)
    obtain ⟨hr1, h_mo, hn⟩ := hp
    subst hr1
    have h_mo_colour := (hn 20 (by decide)).trans h_mo_colour
    have h_mo_layer := (hn 21 (by decide)).trans h_mo_layer
    have h_mo_isColumn := (hn 22 (by decide)).trans h_mo_isColumn
    have h_mo_corners := (hn 23 (by decide)).trans h_mo_corners
    have h_mo_cornerX := (hn 24 (by decide)).trans h_mo_cornerX
    have h_mo_cornerY := (hn 25 (by decide)).trans h_mo_cornerY
    have h_mo_density := (hn 26 (by decide)).trans h_mo_density
    have h_mo_longest := (hn 27 (by decide)).trans h_mo_longest
    have h_mo_shift := (hn 28 (by decide)).trans h_mo_shift
    have h_mo_pull := (hn 29 (by decide)).trans h_mo_pull
    have h_mo_hasUnderlay := (hn 30 (by decide)).trans h_mo_hasUnderlay
    have h_mo_pointX := (hn 31 (by decide)).trans h_mo_pointX
    have h_mo_pointY := (hn 32 (by decide)).trans h_mo_pointY
    have h_mo_crossing := (hn 33 (by decide)).trans h_mo_crossing
    have h_mo_kind := (hn 34 (by decide)).trans h_mo_kind
    have h_mo_byX := (hn 35 (by decide)).trans h_mo_byX
    have h_mo_byY := (hn 36 (by decide)).trans h_mo_byY
    have h_mo_fieldOf := (hn 37 (by decide)).trans h_mo_fieldOf
    have h_mo_isSewn := (hn 38 (by decide)).trans h_mo_isSewn
    have hbg : ∀ i : Nat, i ≠ 19 → i ≠ 31 → i ≠ 32 → i ≠ 33 → i ≠ 34 → i ≠ 35 → i ≠ 36 → i ≠ 37 → i ≠ 38 → σ38 i = σ0 i := fun i a0 a1 a2 a3 a4 a5 a6 a7 a8 => (hn i a0).trans (hbg i a0 a1 a2 a3 a4 a5 a6 a7 a8)
    cases hf
    exact zreti hx hb hr hlocks hQ hH ⟨rfl, h_mo, h_mo_pointX, h_mo_pointY, h_mo_crossing, h_mo_kind, h_mo_byX, h_mo_byY, h_mo_fieldOf, h_mo_isSewn, hbg⟩ dX7_ofCommand_89
  · replace hf := (if_pos c28).symm.trans hf
    refine lv_iconst (v := zI 0) hx hb dX7_ofCommand_22 (by decide +kernel) ?_
    cases hf
    exact zreti hx hb hr hlocks hQ hH ⟨rfl, h_mo, h_mo_pointX, h_mo_pointY, h_mo_crossing, h_mo_kind, h_mo_byX, h_mo_byY, h_mo_fieldOf, h_mo_isSewn, hbg⟩ dX7_ofCommand_23
