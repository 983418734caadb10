abbrev rmX7_count : Room := { frames := 6, cells := 0, slots := 0, locals := 150 }
theorem hd_X7_count : yX7_count.cls = RX7 ∧ yX7_count.cls ≠ "java/lang/invoke/MethodHandle" ∧ yX7_count.cls ≠ "java/lang/invoke/VarHandle" ∧ (parseMethodDescriptor yX7_count.desc).map (fun d => d.parameters.length) = some 1 := by decide +kernel
set_option maxHeartbeats 4000000 in
set_option maxRecDepth 100000 in
theorem c_X7_count {l : Launch} {D : va_G} {cI cZ cF cL cD : ClassId} {ad : Nat → Nat} {N : Nat} (hI : ∀ i j, i < N → j < N → ad i = ad j → i = j) (hN : 46 ≤ N) {σ0 : Nat → va_E} {sz : Nat} {mo_fields : Int} {mo_colour : Int → Int} {mo_layer : Int → Int} {mo_isColumn : Int → Int} {mo_corners : Int → Int} {mo_cornerX : Int → Int} {mo_cornerY : Int → Int} {mo_density : Int → Int} {mo_longest : Int → Int} {mo_shift : Int → Int} {mo_pull : Int → Int} {mo_hasUnderlay : Int → Int} {mo_bound : Int} {mo_pointX : Int → Int} {mo_pointY : Int → Int} {mo_points : Int} {mo_crossing : Int → Int} {mo_crossings : Int} {mo_isKnown : Int} {mo_commands : Int} {mo_kind : Int → Int} {mo_byX : Int → Int} {mo_byY : Int → Int} {mo_fieldOf : Int → Int} {mo_needleX : Int} {mo_needleY : Int} {mo_isSewn : Int → Int} {mo_hasFile : Int} {mo_format : Int} {mo_length : Int} {mo_heads : Int} {mo_late : Int} {mo_ran : Int} {mo_program : Int} {mo_thrown : Int} {mo_rowY : Int} {mo_stitches : Int} {p1 : Int} {R0 : Int} {R_mo_pointX : Int → Int} {R_mo_pointY : Int → Int} {R_mo_points : Int} {R_mo_crossing : Int → Int} {R_mo_crossings : Int} {R_mo_isKnown : Int} {R_mo_commands : Int} {R_mo_kind : Int → Int} {R_mo_byX : Int → Int} {R_mo_byY : Int → Int} {R_mo_fieldOf : Int → Int} {R_mo_needleX : Int} {R_mo_needleY : Int} {R_mo_isSewn : Int → Int} {R_mo_thrown : Int} {R_mo_rowY : Int} (h_mo : σ0 19 = oC_mo ad mo_fields mo_bound mo_points mo_crossings mo_isKnown mo_commands mo_needleX mo_needleY mo_hasFile mo_format mo_length mo_heads mo_late mo_ran mo_program mo_thrown mo_rowY mo_stitches) (h_mo_colour : σ0 20 = .inl (cI, 8, .inl (zA mo_colour))) (h_mo_layer : σ0 21 = .inl (cI, 8, .inl (zA mo_layer))) (h_mo_isColumn : σ0 22 = .inl (cZ, 8, .inl (zA mo_isColumn))) (h_mo_corners : σ0 23 = .inl (cI, 8, .inl (zA mo_corners))) (h_mo_cornerX : σ0 24 = .inl (cI, 64, .inl (zA mo_cornerX))) (h_mo_cornerY : σ0 25 = .inl (cI, 64, .inl (zA mo_cornerY))) (h_mo_density : σ0 26 = .inl (cI, 8, .inl (zA mo_density))) (h_mo_longest : σ0 27 = .inl (cI, 8, .inl (zA mo_longest))) (h_mo_shift : σ0 28 = .inl (cI, 8, .inl (zA mo_shift))) (h_mo_pull : σ0 29 = .inl (cI, 8, .inl (zA mo_pull))) (h_mo_hasUnderlay : σ0 30 = .inl (cZ, 8, .inl (zA mo_hasUnderlay))) (h_mo_pointX : σ0 31 = .inl (cI, 4096, .inl (zA mo_pointX))) (h_mo_pointY : σ0 32 = .inl (cI, 4096, .inl (zA mo_pointY))) (h_mo_crossing : σ0 33 = .inl (cI, 8, .inl (zA mo_crossing))) (h_mo_kind : σ0 34 = .inl (cI, 20000, .inl (zA mo_kind))) (h_mo_byX : σ0 35 = .inl (cI, 20000, .inl (zA mo_byX))) (h_mo_byY : σ0 36 = .inl (cI, 20000, .inl (zA mo_byY))) (h_mo_fieldOf : σ0 37 = .inl (cI, 20000, .inl (zA mo_fieldOf))) (h_mo_isSewn : σ0 38 = .inl (cZ, 8, .inl (zA mo_isSewn))) (hf : f_X7_count mo_fields mo_colour mo_layer mo_isColumn mo_corners mo_cornerX mo_cornerY mo_density mo_longest mo_shift mo_pull mo_hasUnderlay mo_bound mo_pointX mo_pointY mo_points mo_crossing mo_crossings mo_isKnown mo_commands mo_kind mo_byX mo_byY mo_fieldOf mo_needleX mo_needleY mo_isSewn mo_thrown mo_rowY p1 = some (R0, R_mo_pointX, R_mo_pointY, R_mo_points, R_mo_crossing, R_mo_crossings, R_mo_isKnown, R_mo_commands, R_mo_kind, R_mo_byX, R_mo_byY, R_mo_fieldOf, R_mo_needleX, R_mo_needleY, R_mo_isSewn, R_mo_thrown, R_mo_rowY)) :
    Met l yX7_count (Cond.code yX7_count cX7_count 4 (some .int) :: wsL_law) rmX7_count (zPre D ad N (zT cI cZ cF cL cD) σ0 sz [.ref (ad 19), .int (zI p1)]) (zQi D ad N sz (fun r σ' => r = zI R0 ∧ σ' 19 = oC_mo ad mo_fields mo_bound R_mo_points R_mo_crossings R_mo_isKnown R_mo_commands R_mo_needleX R_mo_needleY mo_hasFile mo_format mo_length mo_heads mo_late mo_ran mo_program R_mo_thrown R_mo_rowY mo_stitches ∧ σ' 31 = .inl (cI, 4096, .inl (zA R_mo_pointX)) ∧ σ' 32 = .inl (cI, 4096, .inl (zA R_mo_pointY)) ∧ σ' 33 = .inl (cI, 8, .inl (zA R_mo_crossing)) ∧ σ' 34 = .inl (cI, 20000, .inl (zA R_mo_kind)) ∧ σ' 35 = .inl (cI, 20000, .inl (zA R_mo_byX)) ∧ σ' 36 = .inl (cI, 20000, .inl (zA R_mo_byY)) ∧ σ' 37 = .inl (cI, 20000, .inl (zA R_mo_fieldOf)) ∧ σ' 38 = .inl (cZ, 8, .inl (zA R_mo_isSewn)) ∧ ∀ i : Nat, i ≠ 19 → i ≠ 31 → i ≠ 32 → i ≠ 33 → i ≠ 34 → i ≠ 35 → i ≠ 36 → i ≠ 37 → i ≠ 38 → σ' i = σ0 i)) 0 0 (zFr ad N sz) := by
  refine zMet hI (plainFor_of_name (by decide)) (Nat.le_of_ble_eq_true rfl) ⟨rfl, rfl⟩ ?_
  intro p e s m args below meth c Q hx hb hr hlocks hml hown hts hK hsz hQ hH hA ls hl
  subst hsz
  have hk_mo : 19 < N := by omega
  have hk_mo_colour : 20 < N := by omega
  have hk_mo_layer : 21 < N := by omega
  have hk_mo_isColumn : 22 < N := by omega
  have hk_mo_corners : 23 < N := by omega
  have hk_mo_cornerX : 24 < N := by omega
  have hk_mo_cornerY : 25 < N := by omega
  have hk_mo_density : 26 < N := by omega
  have hk_mo_longest : 27 < N := by omega
  have hk_mo_shift : 28 < N := by omega
  have hk_mo_pull : 29 < N := by omega
  have hk_mo_hasUnderlay : 30 < N := by omega
  have hk_mo_pointX : 31 < N := by omega
  have hk_mo_pointY : 32 < N := by omega
  have hk_mo_crossing : 33 < N := by omega
  have hk_mo_kind : 34 < N := by omega
  have hk_mo_byX : 35 < N := by omega
  have hk_mo_byY : 36 < N := by omega
  have hk_mo_fieldOf : 37 < N := by omega
  have hk_mo_isSewn : 38 < N := by omega
  have hl : lv_has ls 4 [(0, .ref (ad 19)), (1, .int (zI p1))] := hl
  have hbg : ∀ i : Nat, i ≠ 19 → i ≠ 31 → i ≠ 32 → i ≠ 33 → i ≠ 34 → i ≠ 35 → i ≠ 36 → i ≠ 37 → i ≠ 38 → σ0 i = σ0 i := fun _ _ _ _ _ _ _ _ _ _ => rfl
  have L23 : ∀ (mo_pointX : Int → Int) (mo_pointY : Int → Int) (mo_points : Int) (mo_crossing : Int → Int) (mo_crossings : Int) (mo_isKnown : Int) (mo_commands : Int) (mo_kind : Int → Int) (mo_byX : Int → Int) (mo_byY : Int → Int) (mo_fieldOf : Int → Int) (mo_needleX : Int) (mo_needleY : Int) (mo_isSewn : Int → Int) (mo_thrown : Int) (mo_rowY : Int) (x1 : Int)  (n : Nat) (x2 : Int) (x3 : Int) (x2' : Int) (x3' : Int), zlp (fun z => f_X7_count_L23 mo_fields mo_colour mo_layer mo_isColumn mo_corners mo_cornerX mo_cornerY mo_density mo_longest mo_shift mo_pull mo_hasUnderlay mo_bound mo_pointX mo_pointY mo_points mo_crossing mo_crossings mo_isKnown mo_commands mo_kind mo_byX mo_byY mo_fieldOf mo_needleX mo_needleY mo_isSewn mo_thrown mo_rowY x1 z.1 z.2) n (x2, x3) = some (x2', x3') → ∀ (σ : Nat → va_E) (H : Heap) (locs : List Loc) (hH : zH D ad N (zFr ad N s.heap.size) s.heap σ H locs) (h_mo : σ 19 = oC_mo ad mo_fields mo_bound mo_points mo_crossings mo_isKnown mo_commands mo_needleX mo_needleY mo_hasFile mo_format mo_length mo_heads mo_late mo_ran mo_program mo_thrown mo_rowY mo_stitches) (h_mo_colour : σ 20 = .inl (cI, 8, .inl (zA mo_colour))) (h_mo_layer : σ 21 = .inl (cI, 8, .inl (zA mo_layer))) (h_mo_isColumn : σ 22 = .inl (cZ, 8, .inl (zA mo_isColumn))) (h_mo_corners : σ 23 = .inl (cI, 8, .inl (zA mo_corners))) (h_mo_cornerX : σ 24 = .inl (cI, 64, .inl (zA mo_cornerX))) (h_mo_cornerY : σ 25 = .inl (cI, 64, .inl (zA mo_cornerY))) (h_mo_density : σ 26 = .inl (cI, 8, .inl (zA mo_density))) (h_mo_longest : σ 27 = .inl (cI, 8, .inl (zA mo_longest))) (h_mo_shift : σ 28 = .inl (cI, 8, .inl (zA mo_shift))) (h_mo_pull : σ 29 = .inl (cI, 8, .inl (zA mo_pull))) (h_mo_hasUnderlay : σ 30 = .inl (cZ, 8, .inl (zA mo_hasUnderlay))) (h_mo_pointX : σ 31 = .inl (cI, 4096, .inl (zA mo_pointX))) (h_mo_pointY : σ 32 = .inl (cI, 4096, .inl (zA mo_pointY))) (h_mo_crossing : σ 33 = .inl (cI, 8, .inl (zA mo_crossing))) (h_mo_kind : σ 34 = .inl (cI, 20000, .inl (zA mo_kind))) (h_mo_byX : σ 35 = .inl (cI, 20000, .inl (zA mo_byX))) (h_mo_byY : σ 36 = .inl (cI, 20000, .inl (zA mo_byY))) (h_mo_fieldOf : σ 37 = .inl (cI, 20000, .inl (zA mo_fieldOf))) (h_mo_isSewn : σ 38 = .inl (cZ, 8, .inl (zA mo_isSewn))) (hbg : ∀ i : Nat, i ≠ 19 → i ≠ 31 → i ≠ 32 → i ≠ 33 → i ≠ 34 → i ≠ 35 → i ≠ 36 → i ≠ 37 → i ≠ 38 → σ i = σ0 i) (ls : Array Slot) (hl : lv_has ls 4 [(0, .ref (ad 19)), (1, .int (zI x1)), (2, .int (zI x2)), (3, .int (zI x3))]), (∀ (σ : Nat → va_E) (H : Heap) (locs : List Loc) (hH : zH D ad N (zFr ad N s.heap.size) s.heap σ H locs) (h_mo : σ 19 = oC_mo ad mo_fields mo_bound mo_points mo_crossings mo_isKnown mo_commands mo_needleX mo_needleY mo_hasFile mo_format mo_length mo_heads mo_late mo_ran mo_program mo_thrown mo_rowY mo_stitches) (h_mo_colour : σ 20 = .inl (cI, 8, .inl (zA mo_colour))) (h_mo_layer : σ 21 = .inl (cI, 8, .inl (zA mo_layer))) (h_mo_isColumn : σ 22 = .inl (cZ, 8, .inl (zA mo_isColumn))) (h_mo_corners : σ 23 = .inl (cI, 8, .inl (zA mo_corners))) (h_mo_cornerX : σ 24 = .inl (cI, 64, .inl (zA mo_cornerX))) (h_mo_cornerY : σ 25 = .inl (cI, 64, .inl (zA mo_cornerY))) (h_mo_density : σ 26 = .inl (cI, 8, .inl (zA mo_density))) (h_mo_longest : σ 27 = .inl (cI, 8, .inl (zA mo_longest))) (h_mo_shift : σ 28 = .inl (cI, 8, .inl (zA mo_shift))) (h_mo_pull : σ 29 = .inl (cI, 8, .inl (zA mo_pull))) (h_mo_hasUnderlay : σ 30 = .inl (cZ, 8, .inl (zA mo_hasUnderlay))) (h_mo_pointX : σ 31 = .inl (cI, 4096, .inl (zA mo_pointX))) (h_mo_pointY : σ 32 = .inl (cI, 4096, .inl (zA mo_pointY))) (h_mo_crossing : σ 33 = .inl (cI, 8, .inl (zA mo_crossing))) (h_mo_kind : σ 34 = .inl (cI, 20000, .inl (zA mo_kind))) (h_mo_byX : σ 35 = .inl (cI, 20000, .inl (zA mo_byX))) (h_mo_byY : σ 36 = .inl (cI, 20000, .inl (zA mo_byY))) (h_mo_fieldOf : σ 37 = .inl (cI, 20000, .inl (zA mo_fieldOf))) (h_mo_isSewn : σ 38 = .inl (cZ, 8, .inl (zA mo_isSewn))) (hbg : ∀ i : Nat, i ≠ 19 → i ≠ 31 → i ≠ 32 → i ≠ 33 → i ≠ 34 → i ≠ 35 → i ≠ 36 → i ≠ 37 → i ≠ 38 → σ i = σ0 i) (ls : Array Slot) (hl : lv_has ls 4 [(2, .int (zI (x2')))]), W p l e rmX7_count s m args below meth c H locs 0 0 Q (F0 m 55 ls [])) → W p l e rmX7_count s m args below meth c H locs 0 0 Q (F0 m 23 ls []) := by
    intro mo_pointX mo_pointY mo_points mo_crossing mo_crossings mo_isKnown mo_commands mo_kind mo_byX mo_byY mo_fieldOf mo_needleX mo_needleY mo_isSewn mo_thrown mo_rowY x1 n
    induction n with
    | zero => intro x2 x3 x2' x3' hz; exact (zlp_0 hz).elim
    | succ n ih =>
      intro x2 x3 x2' x3' hz σ H locs hH h_mo h_mo_colour h_mo_layer h_mo_isColumn h_mo_corners h_mo_cornerX h_mo_cornerY h_mo_density h_mo_longest h_mo_shift h_mo_pull h_mo_hasUnderlay h_mo_pointX h_mo_pointY h_mo_crossing h_mo_kind h_mo_byX h_mo_byY h_mo_fieldOf h_mo_isSewn hbg ls hl kx
      obtain ⟨nx, hf, hnx⟩ := zlp_some hz
      have hf : f_X7_count_L23 mo_fields mo_colour mo_layer mo_isColumn mo_corners mo_cornerX mo_cornerY mo_density mo_longest mo_shift mo_pull mo_hasUnderlay mo_bound mo_pointX mo_pointY mo_points mo_crossing mo_crossings mo_isKnown mo_commands mo_kind mo_byX mo_byY mo_fieldOf mo_needleX mo_needleY mo_isSewn mo_thrown mo_rowY x1 x2 x3 = some nx := hf
      unfold f_X7_count_L23 at hf
      refine lv_iload_n hx hb dX7_count_23 rfl (lv_at hl 3 rfl) ?_
      refine lv_aload_n hx hb dX7_count_24 rfl (lv_at hl 0 rfl) ?_
      refine zget hx hb inlX7 rfl 19 rfl zk_t4_132 hts hown hK hH hk_mo h_mo rfl dX7_count_25 ?_
      obtain ⟨k1, hf⟩ := zck_some hf
      refine lz_icmp_ge (tgt := 55) hx hb k1 dX7_count_28 (by decide) (fun c2 => ?_) (fun c2 => ?_)
      · replace hf := (if_pos c2).symm.trans hf
        cases hf
        cases hnx
        exact kx _ _ _ hH h_mo h_mo_colour h_mo_layer h_mo_isColumn h_mo_corners h_mo_cornerX h_mo_cornerY h_mo_density h_mo_longest h_mo_shift h_mo_pull h_mo_hasUnderlay h_mo_pointX h_mo_pointY h_mo_crossing h_mo_kind h_mo_byX h_mo_byY h_mo_fieldOf h_mo_isSewn hbg _ (lv_sub hl [2] rfl)
      · replace hf := (if_neg c2).symm.trans hf
        refine lv_iload_n hx hb dX7_count_31 rfl (lv_at hl 2 rfl) ?_
        refine lv_aload_n hx hb dX7_count_32 rfl (lv_at hl 0 rfl) ?_
        refine zget hx hb inlX7 rfl 20 rfl zk_t4_133 hts hown hK hH hk_mo h_mo rfl dX7_count_33 ?_
        refine lv_iload_n hx hb dX7_count_36 rfl (lv_at hl 3 rfl) ?_
        obtain ⟨k3, hf⟩ := zck_some hf
        refine ziald hx hb hK hH hk_mo_kind 0 h_mo_kind rfl k3 rfl dX7_count_37 ?_
        refine lv_iload_n hx hb dX7_count_38 rfl (lv_at hl 1 rfl) ?_
        obtain ⟨k4, hf⟩ := zck_some hf
        refine lz_icmp_ne (tgt := 46) hx hb k4 dX7_count_39 (by decide) (fun c5 => ?_) (fun c5 => ?_)
        · replace hf := (if_neg c5).symm.trans hf
          refine lv_iconst (v := zI 0) hx hb dX7_count_46 (by decide +kernel) ?_
          refine lz_iadd hx hb dX7_count_47 ?_
          obtain ⟨v6, ev6, hf⟩ := zlt_some hf
          refine lz_nm ev6 ?_
          refine lv_istore_n (lv' := [(2, .int (zI v6)), (0, .ref (ad 19)), (1, .int (zI x1)), (3, .int (zI x3))]) hx hb dX7_count_48 rfl hl (by decide) rfl (fun ls hl => ?_)
          refine lz_iinc (lv' := [(3, .int (zI (x3 + 1))), (2, .int (zI v6)), (0, .ref (ad 19)), (1, .int (zI x1))]) hx hb dX7_count_49 hl (j := 3) rfl (by decide) rfl (fun ls hl => ?_)
          refine lv_goto (tgt := 23) hx hb dX7_count_52 (by decide) ?_
          cases hf
          exact ih v6 (x3 + 1) _ _ hnx _ _ _ hH h_mo h_mo_colour h_mo_layer h_mo_isColumn h_mo_corners h_mo_cornerX h_mo_cornerY h_mo_density h_mo_longest h_mo_shift h_mo_pull h_mo_hasUnderlay h_mo_pointX h_mo_pointY h_mo_crossing h_mo_kind h_mo_byX h_mo_byY h_mo_fieldOf h_mo_isSewn hbg _ (lv_sub hl [2, 3, 1, 0] rfl) kx
        · replace hf := (if_pos c5).symm.trans hf
          refine lv_iconst (v := zI 1) hx hb dX7_count_42 (by decide +kernel) ?_
          refine lv_goto (tgt := 47) hx hb dX7_count_43 (by decide) ?_
          refine lz_iadd hx hb dX7_count_47 ?_
          obtain ⟨v7, ev7, hf⟩ := zlt_some hf
          refine lz_nm ev7 ?_
          refine lv_istore_n (lv' := [(2, .int (zI v7)), (0, .ref (ad 19)), (1, .int (zI x1)), (3, .int (zI x3))]) hx hb dX7_count_48 rfl hl (by decide) rfl (fun ls hl => ?_)
          refine lz_iinc (lv' := [(3, .int (zI (x3 + 1))), (2, .int (zI v7)), (0, .ref (ad 19)), (1, .int (zI x1))]) hx hb dX7_count_49 hl (j := 3) rfl (by decide) rfl (fun ls hl => ?_)
          refine lv_goto (tgt := 23) hx hb dX7_count_52 (by decide) ?_
          cases hf
          exact ih v7 (x3 + 1) _ _ hnx _ _ _ hH h_mo h_mo_colour h_mo_layer h_mo_isColumn h_mo_corners h_mo_cornerX h_mo_cornerY h_mo_density h_mo_longest h_mo_shift h_mo_pull h_mo_hasUnderlay h_mo_pointX h_mo_pointY h_mo_crossing h_mo_kind h_mo_byX h_mo_byY h_mo_fieldOf h_mo_isSewn hbg _ (lv_sub hl [2, 3, 1, 0] rfl) kx
  unfold f_X7_count at hf
  refine lv_aload_n hx hb dX7_count_0 rfl (lv_at hl 0 rfl) ?_
  refine lv_iload_n hx hb dX7_count_1 rfl (lv_at hl 1 rfl) ?_
  refine lv_iconst (v := zI 0) hx hb dX7_count_2 (by decide +kernel) ?_
  refine lv_iconst (v := zI 4) hx hb dX7_count_3 (by decide +kernel) ?_
  obtain ⟨r8, k9, hf⟩ := zb1_some hf
  refine zcSi (As := [.int (zI p1), .int (zI 0), .int (zI 4)]) (rest := [.ref (ad 19)]) hx hb hml hown hts hl.1 hK hH hA (c_X7_in hI hN   k9) zk_t5_8 zk_t5_9 zk_t1_6 zk_t5_10 hd_X7_in rfl ⟨rfl, rfl, Nat.le_of_ble_eq_true rfl, Nat.le_of_ble_eq_true rfl⟩ ⟨Nat.zero_le _, Nat.zero_le _⟩ rfl (Nat.le_of_ble_eq_true rfl) dX7_count_4 (fun q11 σ10 Hσ10 lσ10 hp hH => ?_)
  obtain ⟨hr1, hs1⟩ := hp; subst hr1; rw [hs1] at hH
  obtain ⟨r12, u13, k14, hf⟩ := zb2_some hf
  refine zcVi (C := RX7) (As := [.int (zI r8)]) (rest := []) hx hb hml hown hts hl.1 hK hH hA (c_X7_asks hI hN  h_mo k14) zk_t5_11 zk_t5_13 zk_s2_13 zk_t1_6 zk_t5_14 hd_X7_asks rfl ⟨rfl, rfl, Nat.le_of_ble_eq_true rfl, Nat.le_of_ble_eq_true rfl⟩ ⟨Nat.zero_le _, Nat.zero_le _⟩ hk_mo h_mo rfl rfl rfl (Nat.le_of_ble_eq_true rfl) dX7_count_7 (fun q16 σ15 Hσ15 lσ15 hp hH => ?_)
  obtain ⟨hr1, h_mo, hn⟩ := hp
  subst hr1
  have h_mo_colour := (hn 20 (by decide)).trans h_mo_colour
  have h_mo_layer := (hn 21 (by decide)).trans h_mo_layer
  have h_mo_isColumn := (hn 22 (by decide)).trans h_mo_isColumn
  have h_mo_corners := (hn 23 (by decide)).trans h_mo_corners
  have h_mo_cornerX := (hn 24 (by decide)).trans h_mo_cornerX
  have h_mo_cornerY := (hn 25 (by decide)).trans h_mo_cornerY
  have h_mo_density := (hn 26 (by decide)).trans h_mo_density
  have h_mo_longest := (hn 27 (by decide)).trans h_mo_longest
  have h_mo_shift := (hn 28 (by decide)).trans h_mo_shift
  have h_mo_pull := (hn 29 (by decide)).trans h_mo_pull
  have h_mo_hasUnderlay := (hn 30 (by decide)).trans h_mo_hasUnderlay
  have h_mo_pointX := (hn 31 (by decide)).trans h_mo_pointX
  have h_mo_pointY := (hn 32 (by decide)).trans h_mo_pointY
  have h_mo_crossing := (hn 33 (by decide)).trans h_mo_crossing
  have h_mo_kind := (hn 34 (by decide)).trans h_mo_kind
  have h_mo_byX := (hn 35 (by decide)).trans h_mo_byX
  have h_mo_byY := (hn 36 (by decide)).trans h_mo_byY
  have h_mo_fieldOf := (hn 37 (by decide)).trans h_mo_fieldOf
  have h_mo_isSewn := (hn 38 (by decide)).trans h_mo_isSewn
  have hbg : ∀ i : Nat, i ≠ 19 → i ≠ 31 → i ≠ 32 → i ≠ 33 → i ≠ 34 → i ≠ 35 → i ≠ 36 → i ≠ 37 → i ≠ 38 → σ15 i = σ0 i := fun i a0 a1 a2 a3 a4 a5 a6 a7 a8 => (hn i a0).trans (hbg i a0 a1 a2 a3 a4 a5 a6 a7 a8)
  obtain ⟨k17, hf⟩ := zck_some hf
  refine lz_if_ne (tgt := 15) hx hb k17 dX7_count_10 (by decide) (fun c18 => ?_) (fun c18 => ?_)
  · replace hf := (if_neg c18).symm.trans hf
    refine lv_aload_n hx hb dX7_count_15 rfl (lv_at hl 0 rfl) ?_
    obtain ⟨a19, a20, u21, a22, u23, u24, u25, a26, a27, a28, a29, u30, u31, a32, u33, k34, hf⟩ := zb15_some hf
    refine zcVv (C := RX7) (As := []) (rest := []) hx hb hml hown hts hl.1 hK hH hA (c_X7_reckons hI hN  h_mo h_mo_colour h_mo_layer h_mo_isColumn h_mo_corners h_mo_cornerX h_mo_cornerY h_mo_density h_mo_longest h_mo_shift h_mo_pull h_mo_hasUnderlay h_mo_pointX h_mo_pointY h_mo_crossing h_mo_kind h_mo_byX h_mo_byY h_mo_fieldOf h_mo_isSewn k34) zk_t5_43 zk_t5_45 zk_s3_0 zk_t1_6 zk_t5_46 hd_X7_reckons rfl ⟨rfl, rfl, Nat.le_of_ble_eq_true rfl, Nat.le_of_ble_eq_true rfl⟩ ⟨Nat.zero_le _, Nat.zero_le _⟩ hk_mo h_mo rfl rfl rfl (Nat.le_of_ble_eq_true rfl) dX7_count_16 (fun σ35 Hσ35 lσ35 hp hH => ?_)
    obtain ⟨h_mo, h_mo_pointX, h_mo_pointY, h_mo_crossing, h_mo_kind, h_mo_byX, h_mo_byY, h_mo_fieldOf, h_mo_isSewn, hn⟩ := hp
    have h_mo_colour := (hn 20 (by decide) (by decide) (by decide) (by decide) (by decide) (by decide) (by decide) (by decide) (by decide)).trans h_mo_colour
    have h_mo_layer := (hn 21 (by decide) (by decide) (by decide) (by decide) (by decide) (by decide) (by decide) (by decide) (by decide)).trans h_mo_layer
    have h_mo_isColumn := (hn 22 (by decide) (by decide) (by decide) (by decide) (by decide) (by decide) (by decide) (by decide) (by decide)).trans h_mo_isColumn
    have h_mo_corners := (hn 23 (by decide) (by decide) (by decide) (by decide) (by decide) (by decide) (by decide) (by decide) (by decide)).trans h_mo_corners
    have h_mo_cornerX := (hn 24 (by decide) (by decide) (by decide) (by decide) (by decide) (by decide) (by decide) (by decide) (by decide)).trans h_mo_cornerX
    have h_mo_cornerY := (hn 25 (by decide) (by decide) (by decide) (by decide) (by decide) (by decide) (by decide) (by decide) (by decide)).trans h_mo_cornerY
    have h_mo_density := (hn 26 (by decide) (by decide) (by decide) (by decide) (by decide) (by decide) (by decide) (by decide) (by decide)).trans h_mo_density
    have h_mo_longest := (hn 27 (by decide) (by decide) (by decide) (by decide) (by decide) (by decide) (by decide) (by decide) (by decide)).trans h_mo_longest
    have h_mo_shift := (hn 28 (by decide) (by decide) (by decide) (by decide) (by decide) (by decide) (by decide) (by decide) (by decide)).trans h_mo_shift
    have h_mo_pull := (hn 29 (by decide) (by decide) (by decide) (by decide) (by decide) (by decide) (by decide) (by decide) (by decide)).trans h_mo_pull
    have h_mo_hasUnderlay := (hn 30 (by decide) (by decide) (by decide) (by decide) (by decide) (by decide) (by decide) (by decide) (by decide)).trans h_mo_hasUnderlay
    have hbg : ∀ i : Nat, i ≠ 19 → i ≠ 31 → i ≠ 32 → i ≠ 33 → i ≠ 34 → i ≠ 35 → i ≠ 36 → i ≠ 37 → i ≠ 38 → σ35 i = σ0 i := fun i a0 a1 a2 a3 a4 a5 a6 a7 a8 => (hn i a0 a1 a2 a3 a4 a5 a6 a7 a8).trans (hbg i a0 a1 a2 a3 a4 a5 a6 a7 a8)
    refine lv_iconst (v := zI 0) hx hb dX7_count_19 (by decide +kernel) ?_
    refine lv_istore_n (lv' := [(2, .int (zI 0)), (0, .ref (ad 19)), (1, .int (zI p1))]) hx hb dX7_count_20 rfl hl (by decide) rfl (fun ls hl => ?_)
    refine lv_iconst (v := zI 0) hx hb dX7_count_21 (by decide +kernel) ?_
    refine lv_istore_n (lv' := [(3, .int (zI 0)), (2, .int (zI 0)), (0, .ref (ad 19)), (1, .int (zI p1))]) hx hb dX7_count_22 rfl hl (by decide) rfl (fun ls hl => ?_)
    obtain ⟨w37, w38, k36, hf⟩ := zb2_some hf
    refine L23 a19 a20 u21 a22 u23 u24 u25 a26 a27 a28 a29 u30 u31 a32 u13 u33 p1 zFU 0 0 w37 w38 k36 _ _ _ hH h_mo h_mo_colour h_mo_layer h_mo_isColumn h_mo_corners h_mo_cornerX h_mo_cornerY h_mo_density h_mo_longest h_mo_shift h_mo_pull h_mo_hasUnderlay h_mo_pointX h_mo_pointY h_mo_crossing h_mo_kind h_mo_byX h_mo_byY h_mo_fieldOf h_mo_isSewn hbg _ (lv_sub hl [2, 3, 1, 0] rfl) (fun σ39 Hσ39 lσ39 hH h_mo h_mo_colour h_mo_layer h_mo_isColumn h_mo_corners h_mo_cornerX h_mo_cornerY h_mo_density h_mo_longest h_mo_shift h_mo_pull h_mo_hasUnderlay h_mo_pointX h_mo_pointY h_mo_crossing h_mo_kind h_mo_byX h_mo_byY h_mo_fieldOf h_mo_isSewn hbg ls hl => ?_)
    refine lv_iload_n hx hb dX7_count_55 rfl (lv_at hl 0 rfl) ?_
    cases hf
    exact zreti hx hb hr hlocks hQ hH ⟨rfl, h_mo, h_mo_pointX, h_mo_pointY, h_mo_crossing, h_mo_kind, h_mo_byX, h_mo_byY, h_mo_fieldOf, h_mo_isSewn, hbg⟩ dX7_count_56
  · replace hf := (if_pos c18).symm.trans hf
    refine lv_iconst (v := zI 0) hx hb dX7_count_13 (by decide +kernel) ?_
    cases hf
    exact zreti hx hb hr hlocks hQ hH ⟨rfl, h_mo, h_mo_pointX, h_mo_pointY, h_mo_crossing, h_mo_kind, h_mo_byX, h_mo_byY, h_mo_fieldOf, h_mo_isSewn, hbg⟩ dX7_count_14
abbrev rmX7_secondsOf : Room := { frames := 1, cells := 0, slots := 0, locals := 20 }
theorem hd_X7_secondsOf : yX7_secondsOf.cls = RX7 ∧ yX7_secondsOf.cls ≠ "java/lang/invoke/MethodHandle" ∧ yX7_secondsOf.cls ≠ "java/lang/invoke/VarHandle" ∧ (parseMethodDescriptor yX7_secondsOf.desc).map (fun d => d.parameters.length) = some 1 := by decide +kernel
set_option maxHeartbeats 4000000 in
set_option maxRecDepth 100000 in
theorem c_X7_secondsOf {l : Launch} {D : va_G} {cI cZ cF cL cD : ClassId} {ad : Nat → Nat} {N : Nat} (hI : ∀ i j, i < N → j < N → ad i = ad j → i = j) (hN : 46 ≤ N) {σ0 : Nat → va_E} {sz : Nat} {mo_fields : Int} {mo_bound : Int} {mo_points : Int} {mo_crossings : Int} {mo_isKnown : Int} {mo_commands : Int} {mo_kind : Int → Int} {mo_byX : Int → Int} {mo_byY : Int → Int} {mo_needleX : Int} {mo_needleY : Int} {mo_hasFile : Int} {mo_format : Int} {mo_length : Int} {mo_heads : Int} {mo_late : Int} {mo_ran : Int} {mo_program : Int} {mo_thrown : Int} {mo_rowY : Int} {mo_stitches : Int} {p1 : Int} {R0 : UInt32} (h_mo : σ0 19 = oC_mo ad mo_fields mo_bound mo_points mo_crossings mo_isKnown mo_commands mo_needleX mo_needleY mo_hasFile mo_format mo_length mo_heads mo_late mo_ran mo_program mo_thrown mo_rowY mo_stitches) (h_mo_kind : σ0 34 = .inl (cI, 20000, .inl (zA mo_kind))) (h_mo_byX : σ0 35 = .inl (cI, 20000, .inl (zA mo_byX))) (h_mo_byY : σ0 36 = .inl (cI, 20000, .inl (zA mo_byY))) (hf : f_X7_secondsOf mo_kind mo_byX mo_byY p1 = some R0) :
    Met l yX7_secondsOf (Cond.code yX7_secondsOf cX7_secondsOf 2 (some .float) :: wsL_law) rmX7_secondsOf (zPre D ad N (zT cI cZ cF cL cD) σ0 sz [.ref (ad 19), .int (zI p1)]) (zQf D ad N sz (fun r σ' => r = R0 ∧ σ' = σ0)) 0 0 (zFr ad N sz) := by
  refine zMet hI (plainFor_of_name (by decide)) (Nat.le_of_ble_eq_true rfl) ⟨rfl, rfl⟩ ?_
  intro p e s m args below meth c Q hx hb hr hlocks hml hown hts hK hsz hQ hH hA ls hl
  subst hsz
  have hk_mo : 19 < N := by omega
  have hk_mo_kind : 34 < N := by omega
  have hk_mo_byX : 35 < N := by omega
  have hk_mo_byY : 36 < N := by omega
  have hl : lv_has ls 2 [(0, .ref (ad 19)), (1, .int (zI p1))] := hl
  have hbg : σ0 = σ0 := rfl
  unfold f_X7_secondsOf at hf
  refine lv_aload_n hx hb dX7_secondsOf_0 rfl (lv_at hl 0 rfl) ?_
  refine zget hx hb inlX7 rfl 20 rfl zk_t4_133 hts hown hK hH hk_mo h_mo rfl dX7_secondsOf_1 ?_
  refine lv_iload_n hx hb dX7_secondsOf_4 rfl (lv_at hl 1 rfl) ?_
  obtain ⟨k1, hf⟩ := zck_some hf
  refine ziald hx hb hK hH hk_mo_kind 0 h_mo_kind rfl k1 rfl dX7_secondsOf_5 ?_
  obtain ⟨k2, hf⟩ := zck_some hf
  by_cases c3_0 : (mo_kind p1) = 0
  · replace hf := (if_pos c3_0).symm.trans hf
    refine lv_tableIn (tgt := 36) (off := 30) hx hb dX7_secondsOf_6 (by rw [zI_toInt k2]; omega) (by rw [zI_toInt k2]; omega) (by rw [zI_toInt k2, c3_0]; rfl) (by decide) ?_
    refine lv_aload_n hx hb dX7_secondsOf_36 rfl (lv_at hl 0 rfl) ?_
    refine zget hx hb inlX7 rfl 21 rfl zk_t4_134 hts hown hK hH hk_mo h_mo rfl dX7_secondsOf_37 ?_
    refine lv_iload_n hx hb dX7_secondsOf_40 rfl (lv_at hl 1 rfl) ?_
    obtain ⟨k4, hf⟩ := zck_some hf
    refine ziald hx hb hK hH hk_mo_byX 0 h_mo_byX rfl k4 rfl dX7_secondsOf_41 ?_
    obtain ⟨r5, k6, hf⟩ := zb1_some hf
    refine zcSi (As := [.int (zI (mo_byX p1))]) (rest := []) hx hb hml hown hts hl.1 hK hH hA (c_X7_size hI hN   k6) zk_t5_59 zk_t5_60 zk_t1_6 zk_t5_61 hd_X7_size rfl ⟨rfl, rfl, Nat.le_of_ble_eq_true rfl, Nat.le_of_ble_eq_true rfl⟩ ⟨Nat.zero_le _, Nat.zero_le _⟩ rfl (Nat.le_of_ble_eq_true rfl) dX7_secondsOf_42 (fun q8 σ7 Hσ7 lσ7 hp hH => ?_)
    obtain ⟨hr1, hs1⟩ := hp; subst hr1; rw [hs1] at hH
    refine lv_iconst (v := zI 4) hx hb dX7_secondsOf_45 (by decide +kernel) ?_
    obtain ⟨k9, hf⟩ := zck_some hf
    refine lz_icmp_gt (tgt := 67) hx hb ⟨k9, by decide⟩ dX7_secondsOf_46 (by decide) (fun c10 => ?_) (fun c10 => ?_)
    · replace hf := (if_pos c10).symm.trans hf
      refine lv_ldcf (v := 1036831949) hx hb hown (hts _ zk_t5_120) dX7_secondsOf_67 ?_
      cases hf
      exact zretf hx hb hr hlocks hQ hH ⟨rfl, hbg⟩ dX7_secondsOf_69
    · replace hf := (if_neg c10).symm.trans hf
      refine lv_aload_n hx hb dX7_secondsOf_49 rfl (lv_at hl 0 rfl) ?_
      refine zget hx hb inlX7 rfl 22 rfl zk_t4_135 hts hown hK hH hk_mo h_mo rfl dX7_secondsOf_50 ?_
      refine lv_iload_n hx hb dX7_secondsOf_53 rfl (lv_at hl 1 rfl) ?_
      obtain ⟨k11, hf⟩ := zck_some hf
      refine ziald hx hb hK hH hk_mo_byY 0 h_mo_byY rfl k11 rfl dX7_secondsOf_54 ?_
      obtain ⟨r12, k13, hf⟩ := zb1_some hf
      refine zcSi (As := [.int (zI (mo_byY p1))]) (rest := []) hx hb hml hown hts hl.1 hK hH hA (c_X7_size hI hN   k13) zk_t5_59 zk_t5_60 zk_t1_6 zk_t5_61 hd_X7_size rfl ⟨rfl, rfl, Nat.le_of_ble_eq_true rfl, Nat.le_of_ble_eq_true rfl⟩ ⟨Nat.zero_le _, Nat.zero_le _⟩ rfl (Nat.le_of_ble_eq_true rfl) dX7_secondsOf_55 (fun q15 σ14 Hσ14 lσ14 hp hH => ?_)
      obtain ⟨hr1, hs1⟩ := hp; subst hr1; rw [hs1] at hH
      refine lv_iconst (v := zI 4) hx hb dX7_secondsOf_58 (by decide +kernel) ?_
      obtain ⟨k16, hf⟩ := zck_some hf
      refine lz_icmp_gt (tgt := 67) hx hb ⟨k16, by decide⟩ dX7_secondsOf_59 (by decide) (fun c17 => ?_) (fun c17 => ?_)
      · replace hf := (if_pos c17).symm.trans hf
        refine lv_ldcf (v := 1036831949) hx hb hown (hts _ zk_t5_120) dX7_secondsOf_67 ?_
        cases hf
        exact zretf hx hb hr hlocks hQ hH ⟨rfl, hbg⟩ dX7_secondsOf_69
      · replace hf := (if_neg c17).symm.trans hf
        refine lv_ldcf (v := 1033476506) hx hb hown (hts _ zk_t5_119) dX7_secondsOf_62 ?_
        refine lv_goto (tgt := 69) hx hb dX7_secondsOf_64 (by decide) ?_
        cases hf
        exact zretf hx hb hr hlocks hQ hH ⟨rfl, hbg⟩ dX7_secondsOf_69
  replace hf := (if_neg c3_0).symm.trans hf
  by_cases c3_1 : (mo_kind p1) = 1
  · replace hf := (if_pos c3_1).symm.trans hf
    refine lv_tableIn (tgt := 70) (off := 64) hx hb dX7_secondsOf_6 (by rw [zI_toInt k2]; omega) (by rw [zI_toInt k2]; omega) (by rw [zI_toInt k2, c3_1]; rfl) (by decide) ?_
    refine lv_ldcf (v := 1045220557) hx hb hown (hts _ zk_t5_121) dX7_secondsOf_70 ?_
    cases hf
    exact zretf hx hb hr hlocks hQ hH ⟨rfl, hbg⟩ dX7_secondsOf_72
  replace hf := (if_neg c3_1).symm.trans hf
  by_cases c3_2 : (mo_kind p1) = 2
  · replace hf := (if_pos c3_2).symm.trans hf
    refine lv_tableIn (tgt := 73) (off := 67) hx hb dX7_secondsOf_6 (by rw [zI_toInt k2]; omega) (by rw [zI_toInt k2]; omega) (by rw [zI_toInt k2, c3_2]; rfl) (by decide) ?_
    refine lv_ldcf (v := 1086324736) hx hb hown (hts _ zk_t5_122) dX7_secondsOf_73 ?_
    cases hf
    exact zretf hx hb hr hlocks hQ hH ⟨rfl, hbg⟩ dX7_secondsOf_75
  replace hf := (if_neg c3_2).symm.trans hf
  by_cases c3_3 : (mo_kind p1) = 3
  · replace hf := (if_pos c3_3).symm.trans hf
    refine lv_tableIn (tgt := 76) (off := 70) hx hb dX7_secondsOf_6 (by rw [zI_toInt k2]; omega) (by rw [zI_toInt k2]; omega) (by rw [zI_toInt k2, c3_3]; rfl) (by decide) ?_
    refine lv_ldcf (v := 1090519040) hx hb hown (hts _ zk_t5_123) dX7_secondsOf_76 ?_
    cases hf
    exact zretf hx hb hr hlocks hQ hH ⟨rfl, hbg⟩ dX7_secondsOf_78
  replace hf := (if_neg c3_3).symm.trans hf
  refine lv_tableOut (tgt := 79) hx hb dX7_secondsOf_6 (by rw [zI_toInt k2]; omega) (by decide) ?_
  refine lv_fconst0 hx hb dX7_secondsOf_79 ?_
  cases hf
  exact zretf hx hb hr hlocks hQ hH ⟨rfl, hbg⟩ dX7_secondsOf_80
abbrev rmX7_time : Room := { frames := 6, cells := 0, slots := 0, locals := 150 }
theorem hd_X7_time : yX7_time.cls = RX7 ∧ yX7_time.cls ≠ "java/lang/invoke/MethodHandle" ∧ yX7_time.cls ≠ "java/lang/invoke/VarHandle" ∧ (parseMethodDescriptor yX7_time.desc).map (fun d => d.parameters.length) = some 0 := by decide +kernel
set_option maxHeartbeats 4000000 in
set_option maxRecDepth 100000 in
theorem c_X7_time {l : Launch} {D : va_G} {cI cZ cF cL cD : ClassId} {ad : Nat → Nat} {N : Nat} (hI : ∀ i j, i < N → j < N → ad i = ad j → i = j) (hN : 46 ≤ N) {σ0 : Nat → va_E} {sz : Nat} {mo_fields : Int} {mo_colour : Int → Int} {mo_layer : Int → Int} {mo_isColumn : Int → Int} {mo_corners : Int → Int} {mo_cornerX : Int → Int} {mo_cornerY : Int → Int} {mo_density : Int → Int} {mo_longest : Int → Int} {mo_shift : Int → Int} {mo_pull : Int → Int} {mo_hasUnderlay : Int → Int} {mo_bound : Int} {mo_pointX : Int → Int} {mo_pointY : Int → Int} {mo_points : Int} {mo_crossing : Int → Int} {mo_crossings : Int} {mo_isKnown : Int} {mo_commands : Int} {mo_kind : Int → Int} {mo_byX : Int → Int} {mo_byY : Int → Int} {mo_fieldOf : Int → Int} {mo_needleX : Int} {mo_needleY : Int} {mo_isSewn : Int → Int} {mo_hasFile : Int} {mo_format : Int} {mo_length : Int} {mo_heads : Int} {mo_late : Int} {mo_ran : Int} {mo_program : Int} {mo_thrown : Int} {mo_rowY : Int} {mo_stitches : Int} {R0 : UInt32} {R_mo_pointX : Int → Int} {R_mo_pointY : Int → Int} {R_mo_points : Int} {R_mo_crossing : Int → Int} {R_mo_crossings : Int} {R_mo_isKnown : Int} {R_mo_commands : Int} {R_mo_kind : Int → Int} {R_mo_byX : Int → Int} {R_mo_byY : Int → Int} {R_mo_fieldOf : Int → Int} {R_mo_needleX : Int} {R_mo_needleY : Int} {R_mo_isSewn : Int → Int} {R_mo_thrown : Int} {R_mo_rowY : Int} (h_mo : σ0 19 = oC_mo ad mo_fields mo_bound mo_points mo_crossings mo_isKnown mo_commands mo_needleX mo_needleY mo_hasFile mo_format mo_length mo_heads mo_late mo_ran mo_program mo_thrown mo_rowY mo_stitches) (h_mo_colour : σ0 20 = .inl (cI, 8, .inl (zA mo_colour))) (h_mo_layer : σ0 21 = .inl (cI, 8, .inl (zA mo_layer))) (h_mo_isColumn : σ0 22 = .inl (cZ, 8, .inl (zA mo_isColumn))) (h_mo_corners : σ0 23 = .inl (cI, 8, .inl (zA mo_corners))) (h_mo_cornerX : σ0 24 = .inl (cI, 64, .inl (zA mo_cornerX))) (h_mo_cornerY : σ0 25 = .inl (cI, 64, .inl (zA mo_cornerY))) (h_mo_density : σ0 26 = .inl (cI, 8, .inl (zA mo_density))) (h_mo_longest : σ0 27 = .inl (cI, 8, .inl (zA mo_longest))) (h_mo_shift : σ0 28 = .inl (cI, 8, .inl (zA mo_shift))) (h_mo_pull : σ0 29 = .inl (cI, 8, .inl (zA mo_pull))) (h_mo_hasUnderlay : σ0 30 = .inl (cZ, 8, .inl (zA mo_hasUnderlay))) (h_mo_pointX : σ0 31 = .inl (cI, 4096, .inl (zA mo_pointX))) (h_mo_pointY : σ0 32 = .inl (cI, 4096, .inl (zA mo_pointY))) (h_mo_crossing : σ0 33 = .inl (cI, 8, .inl (zA mo_crossing))) (h_mo_kind : σ0 34 = .inl (cI, 20000, .inl (zA mo_kind))) (h_mo_byX : σ0 35 = .inl (cI, 20000, .inl (zA mo_byX))) (h_mo_byY : σ0 36 = .inl (cI, 20000, .inl (zA mo_byY))) (h_mo_fieldOf : σ0 37 = .inl (cI, 20000, .inl (zA mo_fieldOf))) (h_mo_isSewn : σ0 38 = .inl (cZ, 8, .inl (zA mo_isSewn))) (hf : f_X7_time mo_fields mo_colour mo_layer mo_isColumn mo_corners mo_cornerX mo_cornerY mo_density mo_longest mo_shift mo_pull mo_hasUnderlay mo_bound mo_pointX mo_pointY mo_points mo_crossing mo_crossings mo_isKnown mo_commands mo_kind mo_byX mo_byY mo_fieldOf mo_needleX mo_needleY mo_isSewn mo_thrown mo_rowY = some (R0, R_mo_pointX, R_mo_pointY, R_mo_points, R_mo_crossing, R_mo_crossings, R_mo_isKnown, R_mo_commands, R_mo_kind, R_mo_byX, R_mo_byY, R_mo_fieldOf, R_mo_needleX, R_mo_needleY, R_mo_isSewn, R_mo_thrown, R_mo_rowY)) :
    Met l yX7_time (Cond.code yX7_time cX7_time 3 (some .float) :: wsL_law) rmX7_time (zPre D ad N (zT cI cZ cF cL cD) σ0 sz [.ref (ad 19)]) (zQf D ad N sz (fun r σ' => r = R0 ∧ σ' 19 = oC_mo ad mo_fields mo_bound R_mo_points R_mo_crossings R_mo_isKnown R_mo_commands R_mo_needleX R_mo_needleY mo_hasFile mo_format mo_length mo_heads mo_late mo_ran mo_program R_mo_thrown R_mo_rowY mo_stitches ∧ σ' 31 = .inl (cI, 4096, .inl (zA R_mo_pointX)) ∧ σ' 32 = .inl (cI, 4096, .inl (zA R_mo_pointY)) ∧ σ' 33 = .inl (cI, 8, .inl (zA R_mo_crossing)) ∧ σ' 34 = .inl (cI, 20000, .inl (zA R_mo_kind)) ∧ σ' 35 = .inl (cI, 20000, .inl (zA R_mo_byX)) ∧ σ' 36 = .inl (cI, 20000, .inl (zA R_mo_byY)) ∧ σ' 37 = .inl (cI, 20000, .inl (zA R_mo_fieldOf)) ∧ σ' 38 = .inl (cZ, 8, .inl (zA R_mo_isSewn)) ∧ ∀ i : Nat, i ≠ 19 → i ≠ 31 → i ≠ 32 → i ≠ 33 → i ≠ 34 → i ≠ 35 → i ≠ 36 → i ≠ 37 → i ≠ 38 → σ' i = σ0 i)) 0 0 (zFr ad N sz) := by
  refine zMet hI (plainFor_of_name (by decide)) (Nat.le_of_ble_eq_true rfl) ⟨rfl, rfl⟩ ?_
  intro p e s m args below meth c Q hx hb hr hlocks hml hown hts hK hsz hQ hH hA ls hl
  subst hsz
  have hk_mo : 19 < N := by omega
  have hk_mo_colour : 20 < N := by omega
  have hk_mo_layer : 21 < N := by omega
  have hk_mo_isColumn : 22 < N := by omega
  have hk_mo_corners : 23 < N := by omega
  have hk_mo_cornerX : 24 < N := by omega
  have hk_mo_cornerY : 25 < N := by omega
  have hk_mo_density : 26 < N := by omega
  have hk_mo_longest : 27 < N := by omega
  have hk_mo_shift : 28 < N := by omega
  have hk_mo_pull : 29 < N := by omega
  have hk_mo_hasUnderlay : 30 < N := by omega
  have hk_mo_pointX : 31 < N := by omega
  have hk_mo_pointY : 32 < N := by omega
  have hk_mo_crossing : 33 < N := by omega
  have hk_mo_kind : 34 < N := by omega
  have hk_mo_byX : 35 < N := by omega
  have hk_mo_byY : 36 < N := by omega
  have hk_mo_fieldOf : 37 < N := by omega
  have hk_mo_isSewn : 38 < N := by omega
  have hl : lv_has ls 3 [(0, .ref (ad 19))] := hl
  have hbg : ∀ i : Nat, i ≠ 19 → i ≠ 31 → i ≠ 32 → i ≠ 33 → i ≠ 34 → i ≠ 35 → i ≠ 36 → i ≠ 37 → i ≠ 38 → σ0 i = σ0 i := fun _ _ _ _ _ _ _ _ _ _ => rfl
  have L13 : ∀ (mo_pointX : Int → Int) (mo_pointY : Int → Int) (mo_points : Int) (mo_crossing : Int → Int) (mo_crossings : Int) (mo_isKnown : Int) (mo_commands : Int) (mo_kind : Int → Int) (mo_byX : Int → Int) (mo_byY : Int → Int) (mo_fieldOf : Int → Int) (mo_needleX : Int) (mo_needleY : Int) (mo_isSewn : Int → Int) (mo_thrown : Int) (mo_rowY : Int)  (n : Nat) (x1 : UInt32) (x2 : Int) (x1' : UInt32) (x2' : Int), zlp (fun z => f_X7_time_L13 mo_fields mo_colour mo_layer mo_isColumn mo_corners mo_cornerX mo_cornerY mo_density mo_longest mo_shift mo_pull mo_hasUnderlay mo_bound mo_pointX mo_pointY mo_points mo_crossing mo_crossings mo_isKnown mo_commands mo_kind mo_byX mo_byY mo_fieldOf mo_needleX mo_needleY mo_isSewn mo_thrown mo_rowY z.1 z.2) n (x1, x2) = some (x1', x2') → ∀ (σ : Nat → va_E) (H : Heap) (locs : List Loc) (hH : zH D ad N (zFr ad N s.heap.size) s.heap σ H locs) (h_mo : σ 19 = oC_mo ad mo_fields mo_bound mo_points mo_crossings mo_isKnown mo_commands mo_needleX mo_needleY mo_hasFile mo_format mo_length mo_heads mo_late mo_ran mo_program mo_thrown mo_rowY mo_stitches) (h_mo_colour : σ 20 = .inl (cI, 8, .inl (zA mo_colour))) (h_mo_layer : σ 21 = .inl (cI, 8, .inl (zA mo_layer))) (h_mo_isColumn : σ 22 = .inl (cZ, 8, .inl (zA mo_isColumn))) (h_mo_corners : σ 23 = .inl (cI, 8, .inl (zA mo_corners))) (h_mo_cornerX : σ 24 = .inl (cI, 64, .inl (zA mo_cornerX))) (h_mo_cornerY : σ 25 = .inl (cI, 64, .inl (zA mo_cornerY))) (h_mo_density : σ 26 = .inl (cI, 8, .inl (zA mo_density))) (h_mo_longest : σ 27 = .inl (cI, 8, .inl (zA mo_longest))) (h_mo_shift : σ 28 = .inl (cI, 8, .inl (zA mo_shift))) (h_mo_pull : σ 29 = .inl (cI, 8, .inl (zA mo_pull))) (h_mo_hasUnderlay : σ 30 = .inl (cZ, 8, .inl (zA mo_hasUnderlay))) (h_mo_pointX : σ 31 = .inl (cI, 4096, .inl (zA mo_pointX))) (h_mo_pointY : σ 32 = .inl (cI, 4096, .inl (zA mo_pointY))) (h_mo_crossing : σ 33 = .inl (cI, 8, .inl (zA mo_crossing))) (h_mo_kind : σ 34 = .inl (cI, 20000, .inl (zA mo_kind))) (h_mo_byX : σ 35 = .inl (cI, 20000, .inl (zA mo_byX))) (h_mo_byY : σ 36 = .inl (cI, 20000, .inl (zA mo_byY))) (h_mo_fieldOf : σ 37 = .inl (cI, 20000, .inl (zA mo_fieldOf))) (h_mo_isSewn : σ 38 = .inl (cZ, 8, .inl (zA mo_isSewn))) (hbg : ∀ i : Nat, i ≠ 19 → i ≠ 31 → i ≠ 32 → i ≠ 33 → i ≠ 34 → i ≠ 35 → i ≠ 36 → i ≠ 37 → i ≠ 38 → σ i = σ0 i) (ls : Array Slot) (hl : lv_has ls 3 [(0, .ref (ad 19)), (1, .float x1), (2, .int (zI x2))]), (∀ (σ : Nat → va_E) (H : Heap) (locs : List Loc) (hH : zH D ad N (zFr ad N s.heap.size) s.heap σ H locs) (h_mo : σ 19 = oC_mo ad mo_fields mo_bound mo_points mo_crossings mo_isKnown mo_commands mo_needleX mo_needleY mo_hasFile mo_format mo_length mo_heads mo_late mo_ran mo_program mo_thrown mo_rowY mo_stitches) (h_mo_colour : σ 20 = .inl (cI, 8, .inl (zA mo_colour))) (h_mo_layer : σ 21 = .inl (cI, 8, .inl (zA mo_layer))) (h_mo_isColumn : σ 22 = .inl (cZ, 8, .inl (zA mo_isColumn))) (h_mo_corners : σ 23 = .inl (cI, 8, .inl (zA mo_corners))) (h_mo_cornerX : σ 24 = .inl (cI, 64, .inl (zA mo_cornerX))) (h_mo_cornerY : σ 25 = .inl (cI, 64, .inl (zA mo_cornerY))) (h_mo_density : σ 26 = .inl (cI, 8, .inl (zA mo_density))) (h_mo_longest : σ 27 = .inl (cI, 8, .inl (zA mo_longest))) (h_mo_shift : σ 28 = .inl (cI, 8, .inl (zA mo_shift))) (h_mo_pull : σ 29 = .inl (cI, 8, .inl (zA mo_pull))) (h_mo_hasUnderlay : σ 30 = .inl (cZ, 8, .inl (zA mo_hasUnderlay))) (h_mo_pointX : σ 31 = .inl (cI, 4096, .inl (zA mo_pointX))) (h_mo_pointY : σ 32 = .inl (cI, 4096, .inl (zA mo_pointY))) (h_mo_crossing : σ 33 = .inl (cI, 8, .inl (zA mo_crossing))) (h_mo_kind : σ 34 = .inl (cI, 20000, .inl (zA mo_kind))) (h_mo_byX : σ 35 = .inl (cI, 20000, .inl (zA mo_byX))) (h_mo_byY : σ 36 = .inl (cI, 20000, .inl (zA mo_byY))) (h_mo_fieldOf : σ 37 = .inl (cI, 20000, .inl (zA mo_fieldOf))) (h_mo_isSewn : σ 38 = .inl (cZ, 8, .inl (zA mo_isSewn))) (hbg : ∀ i : Nat, i ≠ 19 → i ≠ 31 → i ≠ 32 → i ≠ 33 → i ≠ 34 → i ≠ 35 → i ≠ 36 → i ≠ 37 → i ≠ 38 → σ i = σ0 i) (ls : Array Slot) (hl : lv_has ls 3 [(1, .float (x1'))]), W p l e rmX7_time s m args below meth c H locs 0 0 Q (F0 m 35 ls [])) → W p l e rmX7_time s m args below meth c H locs 0 0 Q (F0 m 13 ls []) := by
    intro mo_pointX mo_pointY mo_points mo_crossing mo_crossings mo_isKnown mo_commands mo_kind mo_byX mo_byY mo_fieldOf mo_needleX mo_needleY mo_isSewn mo_thrown mo_rowY n
    induction n with
    | zero => intro x1 x2 x1' x2' hz; exact (zlp_0 hz).elim
    | succ n ih =>
      intro x1 x2 x1' x2' hz σ H locs hH h_mo h_mo_colour h_mo_layer h_mo_isColumn h_mo_corners h_mo_cornerX h_mo_cornerY h_mo_density h_mo_longest h_mo_shift h_mo_pull h_mo_hasUnderlay h_mo_pointX h_mo_pointY h_mo_crossing h_mo_kind h_mo_byX h_mo_byY h_mo_fieldOf h_mo_isSewn hbg ls hl kx
      obtain ⟨nx, hf, hnx⟩ := zlp_some hz
      have hf : f_X7_time_L13 mo_fields mo_colour mo_layer mo_isColumn mo_corners mo_cornerX mo_cornerY mo_density mo_longest mo_shift mo_pull mo_hasUnderlay mo_bound mo_pointX mo_pointY mo_points mo_crossing mo_crossings mo_isKnown mo_commands mo_kind mo_byX mo_byY mo_fieldOf mo_needleX mo_needleY mo_isSewn mo_thrown mo_rowY x1 x2 = some nx := hf
      unfold f_X7_time_L13 at hf
      refine lv_iload_n hx hb dX7_time_13 rfl (lv_at hl 2 rfl) ?_
      refine lv_aload_n hx hb dX7_time_14 rfl (lv_at hl 0 rfl) ?_
      refine zget hx hb inlX7 rfl 19 rfl zk_t4_132 hts hown hK hH hk_mo h_mo rfl dX7_time_15 ?_
      obtain ⟨k1, hf⟩ := zck_some hf
      refine lz_icmp_ge (tgt := 35) hx hb k1 dX7_time_18 (by decide) (fun c2 => ?_) (fun c2 => ?_)
      · replace hf := (if_pos c2).symm.trans hf
        cases hf
        cases hnx
        exact kx _ _ _ hH h_mo h_mo_colour h_mo_layer h_mo_isColumn h_mo_corners h_mo_cornerX h_mo_cornerY h_mo_density h_mo_longest h_mo_shift h_mo_pull h_mo_hasUnderlay h_mo_pointX h_mo_pointY h_mo_crossing h_mo_kind h_mo_byX h_mo_byY h_mo_fieldOf h_mo_isSewn hbg _ (lv_sub hl [1] rfl)
      · replace hf := (if_neg c2).symm.trans hf
        refine lv_fload_n hx hb dX7_time_21 rfl (lv_at hl 1 rfl) ?_
        refine lv_aload_n hx hb dX7_time_22 rfl (lv_at hl 0 rfl) ?_
        refine lv_iload_n hx hb dX7_time_23 rfl (lv_at hl 2 rfl) ?_
        obtain ⟨r3, k4, hf⟩ := zb1_some hf
        refine zcVf (C := RX7) (As := [.int (zI x2)]) (rest := [.float x1]) hx hb hml hown hts hl.1 hK hH hA (c_X7_secondsOf hI hN  h_mo h_mo_kind h_mo_byX h_mo_byY k4) zk_t5_115 zk_t5_117 zk_s3_12 zk_t1_6 zk_t5_118 hd_X7_secondsOf rfl ⟨rfl, rfl, Nat.le_of_ble_eq_true rfl, Nat.le_of_ble_eq_true rfl⟩ ⟨Nat.zero_le _, Nat.zero_le _⟩ hk_mo h_mo rfl rfl rfl (Nat.le_of_ble_eq_true rfl) dX7_time_24 (fun q6 σ5 Hσ5 lσ5 hp hH => ?_)
        obtain ⟨hr1, hs1⟩ := hp; subst hr1; rw [hs1] at hH
        obtain ⟨k7, hf⟩ := zck_some hf
        refine lv_fadd hx hb dX7_time_27 k7 ?_
        obtain ⟨v8, ev8, hf⟩ := zlt_some hf
        refine lz_nmf ev8 ?_
        refine lv_fstore_n (lv' := [(1, .float v8), (0, .ref (ad 19)), (2, .int (zI x2))]) hx hb dX7_time_28 rfl hl (by decide) rfl (fun ls hl => ?_)
        refine lz_iinc (lv' := [(2, .int (zI (x2 + 1))), (1, .float v8), (0, .ref (ad 19))]) hx hb dX7_time_29 hl (j := 2) rfl (by decide) rfl (fun ls hl => ?_)
        refine lv_goto (tgt := 13) hx hb dX7_time_32 (by decide) ?_
        cases hf
        exact ih v8 (x2 + 1) _ _ hnx _ _ _ hH h_mo h_mo_colour h_mo_layer h_mo_isColumn h_mo_corners h_mo_cornerX h_mo_cornerY h_mo_density h_mo_longest h_mo_shift h_mo_pull h_mo_hasUnderlay h_mo_pointX h_mo_pointY h_mo_crossing h_mo_kind h_mo_byX h_mo_byY h_mo_fieldOf h_mo_isSewn hbg _ (lv_sub hl [2, 1, 0] rfl) kx
  unfold f_X7_time at hf
  refine lv_aload_n hx hb dX7_time_0 rfl (lv_at hl 0 rfl) ?_
  refine lv_iconst (v := zI 0) hx hb dX7_time_1 (by decide +kernel) ?_
  refine zput hx hb inlX7 tyX7 tyX7_ok nmX7 rfl 39 rfl zk_t4_152 rfl hts hown hK hH hk_mo h_mo rfl rfl rfl dX7_time_2 (fun σ9 Hσ9 lσ9 h_mo hn hH => ?_)
  have h_mo : σ9 19 = oC_mo ad mo_fields mo_bound mo_points mo_crossings mo_isKnown mo_commands mo_needleX mo_needleY mo_hasFile mo_format mo_length mo_heads mo_late mo_ran mo_program 0 mo_rowY mo_stitches := h_mo
  have h_mo_colour := (hn 20 (by decide)).trans h_mo_colour
  have h_mo_layer := (hn 21 (by decide)).trans h_mo_layer
  have h_mo_isColumn := (hn 22 (by decide)).trans h_mo_isColumn
  have h_mo_corners := (hn 23 (by decide)).trans h_mo_corners
  have h_mo_cornerX := (hn 24 (by decide)).trans h_mo_cornerX
  have h_mo_cornerY := (hn 25 (by decide)).trans h_mo_cornerY
  have h_mo_density := (hn 26 (by decide)).trans h_mo_density
  have h_mo_longest := (hn 27 (by decide)).trans h_mo_longest
  have h_mo_shift := (hn 28 (by decide)).trans h_mo_shift
  have h_mo_pull := (hn 29 (by decide)).trans h_mo_pull
  have h_mo_hasUnderlay := (hn 30 (by decide)).trans h_mo_hasUnderlay
  have h_mo_pointX := (hn 31 (by decide)).trans h_mo_pointX
  have h_mo_pointY := (hn 32 (by decide)).trans h_mo_pointY
  have h_mo_crossing := (hn 33 (by decide)).trans h_mo_crossing
  have h_mo_kind := (hn 34 (by decide)).trans h_mo_kind
  have h_mo_byX := (hn 35 (by decide)).trans h_mo_byX
  have h_mo_byY := (hn 36 (by decide)).trans h_mo_byY
  have h_mo_fieldOf := (hn 37 (by decide)).trans h_mo_fieldOf
  have h_mo_isSewn := (hn 38 (by decide)).trans h_mo_isSewn
  have hbg : ∀ i : Nat, i ≠ 19 → i ≠ 31 → i ≠ 32 → i ≠ 33 → i ≠ 34 → i ≠ 35 → i ≠ 36 → i ≠ 37 → i ≠ 38 → σ9 i = σ0 i := fun i a0 a1 a2 a3 a4 a5 a6 a7 a8 => (hn i a0).trans (hbg i a0 a1 a2 a3 a4 a5 a6 a7 a8)
  refine lv_aload_n hx hb dX7_time_5 rfl (lv_at hl 0 rfl) ?_
  obtain ⟨a10, a11, u12, a13, u14, u15, u16, a17, a18, a19, a20, u21, u22, a23, u24, k25, hf⟩ := zb15_some hf
  refine zcVv (C := RX7) (As := []) (rest := []) hx hb hml hown hts hl.1 hK hH hA (c_X7_reckons hI hN  h_mo h_mo_colour h_mo_layer h_mo_isColumn h_mo_corners h_mo_cornerX h_mo_cornerY h_mo_density h_mo_longest h_mo_shift h_mo_pull h_mo_hasUnderlay h_mo_pointX h_mo_pointY h_mo_crossing h_mo_kind h_mo_byX h_mo_byY h_mo_fieldOf h_mo_isSewn k25) zk_t5_43 zk_t5_45 zk_s3_0 zk_t1_6 zk_t5_46 hd_X7_reckons rfl ⟨rfl, rfl, Nat.le_of_ble_eq_true rfl, Nat.le_of_ble_eq_true rfl⟩ ⟨Nat.zero_le _, Nat.zero_le _⟩ hk_mo h_mo rfl rfl rfl (Nat.le_of_ble_eq_true rfl) dX7_time_6 (fun σ26 Hσ26 lσ26 hp hH => ?_)
  obtain ⟨h_mo, h_mo_pointX, h_mo_pointY, h_mo_crossing, h_mo_kind, h_mo_byX, h_mo_byY, h_mo_fieldOf, h_mo_isSewn, hn⟩ := hp
  have h_mo_colour := (hn 20 (by decide) (by decide) (by decide) (by decide) (by decide) (by decide) (by decide) (by decide) (by decide)).trans h_mo_colour
  have h_mo_layer := (hn 21 (by decide) (by decide) (by decide) (by decide) (by decide) (by decide) (by decide) (by decide) (by decide)).trans h_mo_layer
  have h_mo_isColumn := (hn 22 (by decide) (by decide) (by decide) (by decide) (by decide) (by decide) (by decide) (by decide) (by decide)).trans h_mo_isColumn
  have h_mo_corners := (hn 23 (by decide) (by decide) (by decide) (by decide) (by decide) (by decide) (by decide) (by decide) (by decide)).trans h_mo_corners
  have h_mo_cornerX := (hn 24 (by decide) (by decide) (by decide) (by decide) (by decide) (by decide) (by decide) (by decide) (by decide)).trans h_mo_cornerX
  have h_mo_cornerY := (hn 25 (by decide) (by decide) (by decide) (by decide) (by decide) (by decide) (by decide) (by decide) (by decide)).trans h_mo_cornerY
  have h_mo_density := (hn 26 (by decide) (by decide) (by decide) (by decide) (by decide) (by decide) (by decide) (by decide) (by decide)).trans h_mo_density
  have h_mo_longest := (hn 27 (by decide) (by decide) (by decide) (by decide) (by decide) (by decide) (by decide) (by decide) (by decide)).trans h_mo_longest
  have h_mo_shift := (hn 28 (by decide) (by decide) (by decide) (by decide) (by decide) (by decide) (by decide) (by decide) (by decide)).trans h_mo_shift
  have h_mo_pull := (hn 29 (by decide) (by decide) (by decide) (by decide) (by decide) (by decide) (by decide) (by decide) (by decide)).trans h_mo_pull
  have h_mo_hasUnderlay := (hn 30 (by decide) (by decide) (by decide) (by decide) (by decide) (by decide) (by decide) (by decide) (by decide)).trans h_mo_hasUnderlay
  have hbg : ∀ i : Nat, i ≠ 19 → i ≠ 31 → i ≠ 32 → i ≠ 33 → i ≠ 34 → i ≠ 35 → i ≠ 36 → i ≠ 37 → i ≠ 38 → σ26 i = σ0 i := fun i a0 a1 a2 a3 a4 a5 a6 a7 a8 => (hn i a0 a1 a2 a3 a4 a5 a6 a7 a8).trans (hbg i a0 a1 a2 a3 a4 a5 a6 a7 a8)
  refine lv_fconst0 hx hb dX7_time_9 ?_
  refine lv_fstore_n (lv' := [(1, .float 0), (0, .ref (ad 19))]) hx hb dX7_time_10 rfl hl (by decide) rfl (fun ls hl => ?_)
  refine lv_iconst (v := zI 0) hx hb dX7_time_11 (by decide +kernel) ?_
  refine lv_istore_n (lv' := [(2, .int (zI 0)), (1, .float 0), (0, .ref (ad 19))]) hx hb dX7_time_12 rfl hl (by decide) rfl (fun ls hl => ?_)
  obtain ⟨w28, w29, k27, hf⟩ := zb2_some hf
  refine L13 a10 a11 u12 a13 u14 u15 u16 a17 a18 a19 a20 u21 u22 a23 0 u24 zFU 0 0 w28 w29 k27 _ _ _ hH h_mo h_mo_colour h_mo_layer h_mo_isColumn h_mo_corners h_mo_cornerX h_mo_cornerY h_mo_density h_mo_longest h_mo_shift h_mo_pull h_mo_hasUnderlay h_mo_pointX h_mo_pointY h_mo_crossing h_mo_kind h_mo_byX h_mo_byY h_mo_fieldOf h_mo_isSewn hbg _ (lv_sub hl [2, 1, 0] rfl) (fun σ30 Hσ30 lσ30 hH h_mo h_mo_colour h_mo_layer h_mo_isColumn h_mo_corners h_mo_cornerX h_mo_cornerY h_mo_density h_mo_longest h_mo_shift h_mo_pull h_mo_hasUnderlay h_mo_pointX h_mo_pointY h_mo_crossing h_mo_kind h_mo_byX h_mo_byY h_mo_fieldOf h_mo_isSewn hbg ls hl => ?_)
  refine lv_fload_n hx hb dX7_time_35 rfl (lv_at hl 0 rfl) ?_
  cases hf
  exact zretf hx hb hr hlocks hQ hH ⟨rfl, h_mo, h_mo_pointX, h_mo_pointY, h_mo_crossing, h_mo_kind, h_mo_byX, h_mo_byY, h_mo_fieldOf, h_mo_isSewn, hbg⟩ dX7_time_36
abbrev rmX7_root : Room := { frames := 0, cells := 0, slots := 0, locals := 0 }
theorem hd_X7_root : yX7_root.cls ≠ "java/lang/invoke/MethodHandle" ∧ yX7_root.cls ≠ "java/lang/invoke/VarHandle" ∧ (parseMethodDescriptor yX7_root.desc).map (fun d => d.parameters.length) = some 1 := by decide +kernel
set_option maxHeartbeats 4000000 in
set_option maxRecDepth 100000 in
theorem c_X7_root {l : Launch} {D : va_G} {cI cZ cF cL cD : ClassId} {ad : Nat → Nat} {N : Nat} (hI : ∀ i j, i < N → j < N → ad i = ad j → i = j) (hN : 46 ≤ N) {σ0 : Nat → va_E} {sz : Nat} {p0 : Int} {R0 : Int}  (hf : f_X7_root p0 = some R0) :
    Met l yX7_root (Cond.code yX7_root cX7_root 2 (some .int) :: wsL_law) rmX7_root (zPre D ad N (zT cI cZ cF cL cD) σ0 sz [.int (zI p0)]) (zQi D ad N sz (fun r σ' => r = zI R0 ∧ σ' = σ0)) 0 0 (zFr ad N sz) := by
  refine zMet hI (plainFor_of_name (by decide)) (Nat.le_of_ble_eq_true rfl) ⟨rfl, rfl⟩ ?_
  intro p e s m args below meth c Q hx hb hr hlocks hml hown hts hK hsz hQ hH hA ls hl
  subst hsz
  have hl : lv_has ls 2 [(0, .int (zI p0))] := hl
  have hbg : σ0 = σ0 := rfl
  have L2 : ∀ (x0 : Int)  (n : Nat) (x1 : Int) (x1' : Int), zlp (fun z => f_X7_root_L2 x0 z) n x1 = some x1' → ∀ (σ : Nat → va_E) (H : Heap) (locs : List Loc) (hH : zH D ad N (zFr ad N s.heap.size) s.heap σ H locs)  (hbg : σ = σ0) (ls : Array Slot) (hl : lv_has ls 2 [(0, .int (zI x0)), (1, .int (zI x1))]), (∀ (σ : Nat → va_E) (H : Heap) (locs : List Loc) (hH : zH D ad N (zFr ad N s.heap.size) s.heap σ H locs)  (hbg : σ = σ0) (ls : Array Slot) (hl : lv_has ls 2 [(1, .int (zI (x1')))]), W p l e rmX7_root s m args below meth c H locs 0 0 Q (F0 m 19 ls [])) → W p l e rmX7_root s m args below meth c H locs 0 0 Q (F0 m 2 ls []) := by
    intro x0 n
    induction n with
    | zero => intro x1 x1' hz; exact (zlp_0 hz).elim
    | succ n ih =>
      intro x1 x1' hz σ H locs hH  hbg ls hl kx
      obtain ⟨nx, hf, hnx⟩ := zlp_some hz
      have hf : f_X7_root_L2 x0 x1 = some nx := hf
      unfold f_X7_root_L2 at hf
      refine lv_iload_n hx hb dX7_root_2 rfl (lv_at hl 1 rfl) ?_
      refine lv_iconst (v := zI 1) hx hb dX7_root_3 (by decide +kernel) ?_
      refine lz_iadd hx hb dX7_root_4 ?_
      refine lv_iload_n hx hb dX7_root_5 rfl (lv_at hl 1 rfl) ?_
      refine lv_iconst (v := zI 1) hx hb dX7_root_6 (by decide +kernel) ?_
      refine lz_iadd hx hb dX7_root_7 ?_
      refine lz_imul hx hb dX7_root_8 ?_
      refine lv_iload_n hx hb dX7_root_9 rfl (lv_at hl 0 rfl) ?_
      obtain ⟨k1, hf⟩ := zck_some hf
      refine lz_icmp_gt (tgt := 19) hx hb k1 dX7_root_10 (by decide) (fun c2 => ?_) (fun c2 => ?_)
      · replace hf := (if_pos c2).symm.trans hf
        cases hf
        cases hnx
        exact kx _ _ _ hH hbg _ (lv_sub hl [1] rfl)
      · replace hf := (if_neg c2).symm.trans hf
        refine lz_iinc (lv' := [(1, .int (zI (x1 + 1))), (0, .int (zI x0))]) hx hb dX7_root_13 hl (j := 1) rfl (by decide) rfl (fun ls hl => ?_)
        refine lv_goto (tgt := 2) hx hb dX7_root_16 (by decide) ?_
        cases hf
        exact ih (x1 + 1) _ hnx _ _ _ hH hbg _ (lv_sub hl [1, 0] rfl) kx
  unfold f_X7_root at hf
  refine lv_iconst (v := zI 0) hx hb dX7_root_0 (by decide +kernel) ?_
  refine lv_istore_n (lv' := [(1, .int (zI 0)), (0, .int (zI p0))]) hx hb dX7_root_1 rfl hl (by decide) rfl (fun ls hl => ?_)
  obtain ⟨w4, k3, hf⟩ := zb1_some hf
  refine L2 p0 zFU 0 w4 k3 _ _ _ hH hbg _ (lv_sub hl [1, 0] rfl) (fun σ5 Hσ5 lσ5 hH  hbg ls hl => ?_)
  refine lv_iload_n hx hb dX7_root_19 rfl (lv_at hl 0 rfl) ?_
  cases hf
  exact zreti hx hb hr hlocks hQ hH ⟨rfl, hbg⟩ dX7_root_20
abbrev rmX7_thread : Room := { frames := 6, cells := 0, slots := 0, locals := 150 }
theorem hd_X7_thread : yX7_thread.cls = RX7 ∧ yX7_thread.cls ≠ "java/lang/invoke/MethodHandle" ∧ yX7_thread.cls ≠ "java/lang/invoke/VarHandle" ∧ (parseMethodDescriptor yX7_thread.desc).map (fun d => d.parameters.length) = some 1 := by decide +kernel
set_option maxHeartbeats 4000000 in
set_option maxRecDepth 100000 in
theorem c_X7_thread {l : Launch} {D : va_G} {cI cZ cF cL cD : ClassId} {ad : Nat → Nat} {N : Nat} (hI : ∀ i j, i < N → j < N → ad i = ad j → i = j) (hN : 46 ≤ N) {σ0 : Nat → va_E} {sz : Nat} {mo_fields : Int} {mo_colour : Int → Int} {mo_layer : Int → Int} {mo_isColumn : Int → Int} {mo_corners : Int → Int} {mo_cornerX : Int → Int} {mo_cornerY : Int → Int} {mo_density : Int → Int} {mo_longest : Int → Int} {mo_shift : Int → Int} {mo_pull : Int → Int} {mo_hasUnderlay : Int → Int} {mo_bound : Int} {mo_pointX : Int → Int} {mo_pointY : Int → Int} {mo_points : Int} {mo_crossing : Int → Int} {mo_crossings : Int} {mo_isKnown : Int} {mo_commands : Int} {mo_kind : Int → Int} {mo_byX : Int → Int} {mo_byY : Int → Int} {mo_fieldOf : Int → Int} {mo_needleX : Int} {mo_needleY : Int} {mo_isSewn : Int → Int} {mo_hasFile : Int} {mo_format : Int} {mo_length : Int} {mo_heads : Int} {mo_late : Int} {mo_ran : Int} {mo_program : Int} {mo_thrown : Int} {mo_rowY : Int} {mo_stitches : Int} {p1 : Int} {R0 : Int} {R_mo_pointX : Int → Int} {R_mo_pointY : Int → Int} {R_mo_points : Int} {R_mo_crossing : Int → Int} {R_mo_crossings : Int} {R_mo_isKnown : Int} {R_mo_commands : Int} {R_mo_kind : Int → Int} {R_mo_byX : Int → Int} {R_mo_byY : Int → Int} {R_mo_fieldOf : Int → Int} {R_mo_needleX : Int} {R_mo_needleY : Int} {R_mo_isSewn : Int → Int} {R_mo_thrown : Int} {R_mo_rowY : Int} (h_mo : σ0 19 = oC_mo ad mo_fields mo_bound mo_points mo_crossings mo_isKnown mo_commands mo_needleX mo_needleY mo_hasFile mo_format mo_length mo_heads mo_late mo_ran mo_program mo_thrown mo_rowY mo_stitches) (h_mo_colour : σ0 20 = .inl (cI, 8, .inl (zA mo_colour))) (h_mo_layer : σ0 21 = .inl (cI, 8, .inl (zA mo_layer))) (h_mo_isColumn : σ0 22 = .inl (cZ, 8, .inl (zA mo_isColumn))) (h_mo_corners : σ0 23 = .inl (cI, 8, .inl (zA mo_corners))) (h_mo_cornerX : σ0 24 = .inl (cI, 64, .inl (zA mo_cornerX))) (h_mo_cornerY : σ0 25 = .inl (cI, 64, .inl (zA mo_cornerY))) (h_mo_density : σ0 26 = .inl (cI, 8, .inl (zA mo_density))) (h_mo_longest : σ0 27 = .inl (cI, 8, .inl (zA mo_longest))) (h_mo_shift : σ0 28 = .inl (cI, 8, .inl (zA mo_shift))) (h_mo_pull : σ0 29 = .inl (cI, 8, .inl (zA mo_pull))) (h_mo_hasUnderlay : σ0 30 = .inl (cZ, 8, .inl (zA mo_hasUnderlay))) (h_mo_pointX : σ0 31 = .inl (cI, 4096, .inl (zA mo_pointX))) (h_mo_pointY : σ0 32 = .inl (cI, 4096, .inl (zA mo_pointY))) (h_mo_crossing : σ0 33 = .inl (cI, 8, .inl (zA mo_crossing))) (h_mo_kind : σ0 34 = .inl (cI, 20000, .inl (zA mo_kind))) (h_mo_byX : σ0 35 = .inl (cI, 20000, .inl (zA mo_byX))) (h_mo_byY : σ0 36 = .inl (cI, 20000, .inl (zA mo_byY))) (h_mo_fieldOf : σ0 37 = .inl (cI, 20000, .inl (zA mo_fieldOf))) (h_mo_isSewn : σ0 38 = .inl (cZ, 8, .inl (zA mo_isSewn))) (hf : f_X7_thread mo_fields mo_colour mo_layer mo_isColumn mo_corners mo_cornerX mo_cornerY mo_density mo_longest mo_shift mo_pull mo_hasUnderlay mo_bound mo_pointX mo_pointY mo_points mo_crossing mo_crossings mo_isKnown mo_commands mo_kind mo_byX mo_byY mo_fieldOf mo_needleX mo_needleY mo_isSewn mo_thrown mo_rowY p1 = some (R0, R_mo_pointX, R_mo_pointY, R_mo_points, R_mo_crossing, R_mo_crossings, R_mo_isKnown, R_mo_commands, R_mo_kind, R_mo_byX, R_mo_byY, R_mo_fieldOf, R_mo_needleX, R_mo_needleY, R_mo_isSewn, R_mo_thrown, R_mo_rowY)) :
    Met l yX7_thread (Cond.code yX7_thread cX7_thread 5 (some .int) :: wsL_law) rmX7_thread (zPre D ad N (zT cI cZ cF cL cD) σ0 sz [.ref (ad 19), .int (zI p1)]) (zQi D ad N sz (fun r σ' => r = zI R0 ∧ σ' 19 = oC_mo ad mo_fields mo_bound R_mo_points R_mo_crossings R_mo_isKnown R_mo_commands R_mo_needleX R_mo_needleY mo_hasFile mo_format mo_length mo_heads mo_late mo_ran mo_program R_mo_thrown R_mo_rowY mo_stitches ∧ σ' 31 = .inl (cI, 4096, .inl (zA R_mo_pointX)) ∧ σ' 32 = .inl (cI, 4096, .inl (zA R_mo_pointY)) ∧ σ' 33 = .inl (cI, 8, .inl (zA R_mo_crossing)) ∧ σ' 34 = .inl (cI, 20000, .inl (zA R_mo_kind)) ∧ σ' 35 = .inl (cI, 20000, .inl (zA R_mo_byX)) ∧ σ' 36 = .inl (cI, 20000, .inl (zA R_mo_byY)) ∧ σ' 37 = .inl (cI, 20000, .inl (zA R_mo_fieldOf)) ∧ σ' 38 = .inl (cZ, 8, .inl (zA R_mo_isSewn)) ∧ ∀ i : Nat, i ≠ 19 → i ≠ 31 → i ≠ 32 → i ≠ 33 → i ≠ 34 → i ≠ 35 → i ≠ 36 → i ≠ 37 → i ≠ 38 → σ' i = σ0 i)) 0 0 (zFr ad N sz) := by
  refine zMet hI (plainFor_of_name (by decide)) (Nat.le_of_ble_eq_true rfl) ⟨rfl, rfl⟩ ?_
  intro p e s m args below meth c Q hx hb hr hlocks hml hown hts hK hsz hQ hH hA ls hl
  subst hsz
  have hk_mo : 19 < N := by omega
  have hk_mo_colour : 20 < N := by omega
  have hk_mo_layer : 21 < N := by omega
  have hk_mo_isColumn : 22 < N := by omega
  have hk_mo_corners : 23 < N := by omega
  have hk_mo_cornerX : 24 < N := by omega
  have hk_mo_cornerY : 25 < N := by omega
  have hk_mo_density : 26 < N := by omega
  have hk_mo_longest : 27 < N := by omega
  have hk_mo_shift : 28 < N := by omega
  have hk_mo_pull : 29 < N := by omega
  have hk_mo_hasUnderlay : 30 < N := by omega
  have hk_mo_pointX : 31 < N := by omega
  have hk_mo_pointY : 32 < N := by omega
  have hk_mo_crossing : 33 < N := by omega
  have hk_mo_kind : 34 < N := by omega
  have hk_mo_byX : 35 < N := by omega
  have hk_mo_byY : 36 < N := by omega
  have hk_mo_fieldOf : 37 < N := by omega
  have hk_mo_isSewn : 38 < N := by omega
  have hl : lv_has ls 5 [(0, .ref (ad 19)), (1, .int (zI p1))] := hl
  have hbg : ∀ i : Nat, i ≠ 19 → i ≠ 31 → i ≠ 32 → i ≠ 33 → i ≠ 34 → i ≠ 35 → i ≠ 36 → i ≠ 37 → i ≠ 38 → σ0 i = σ0 i := fun _ _ _ _ _ _ _ _ _ _ => rfl
  have L23 : ∀ (mo_pointX : Int → Int) (mo_pointY : Int → Int) (mo_points : Int) (mo_crossing : Int → Int) (mo_crossings : Int) (mo_isKnown : Int) (mo_commands : Int) (mo_kind : Int → Int) (mo_byX : Int → Int) (mo_byY : Int → Int) (mo_fieldOf : Int → Int) (mo_needleX : Int) (mo_needleY : Int) (mo_isSewn : Int → Int) (mo_thrown : Int) (mo_rowY : Int) (x1 : Int)  (n : Nat) (x2 : Int) (x3 : Int) (x2' : Int) (x3' : Int), zlp (fun z => f_X7_thread_L23 mo_fields mo_colour mo_layer mo_isColumn mo_corners mo_cornerX mo_cornerY mo_density mo_longest mo_shift mo_pull mo_hasUnderlay mo_bound mo_pointX mo_pointY mo_points mo_crossing mo_crossings mo_isKnown mo_commands mo_kind mo_byX mo_byY mo_fieldOf mo_needleX mo_needleY mo_isSewn mo_thrown mo_rowY x1 z.1 z.2) n (x2, x3) = some (x2', x3') → ∀ (σ : Nat → va_E) (H : Heap) (locs : List Loc) (hH : zH D ad N (zFr ad N s.heap.size) s.heap σ H locs) (h_mo : σ 19 = oC_mo ad mo_fields mo_bound mo_points mo_crossings mo_isKnown mo_commands mo_needleX mo_needleY mo_hasFile mo_format mo_length mo_heads mo_late mo_ran mo_program mo_thrown mo_rowY mo_stitches) (h_mo_colour : σ 20 = .inl (cI, 8, .inl (zA mo_colour))) (h_mo_layer : σ 21 = .inl (cI, 8, .inl (zA mo_layer))) (h_mo_isColumn : σ 22 = .inl (cZ, 8, .inl (zA mo_isColumn))) (h_mo_corners : σ 23 = .inl (cI, 8, .inl (zA mo_corners))) (h_mo_cornerX : σ 24 = .inl (cI, 64, .inl (zA mo_cornerX))) (h_mo_cornerY : σ 25 = .inl (cI, 64, .inl (zA mo_cornerY))) (h_mo_density : σ 26 = .inl (cI, 8, .inl (zA mo_density))) (h_mo_longest : σ 27 = .inl (cI, 8, .inl (zA mo_longest))) (h_mo_shift : σ 28 = .inl (cI, 8, .inl (zA mo_shift))) (h_mo_pull : σ 29 = .inl (cI, 8, .inl (zA mo_pull))) (h_mo_hasUnderlay : σ 30 = .inl (cZ, 8, .inl (zA mo_hasUnderlay))) (h_mo_pointX : σ 31 = .inl (cI, 4096, .inl (zA mo_pointX))) (h_mo_pointY : σ 32 = .inl (cI, 4096, .inl (zA mo_pointY))) (h_mo_crossing : σ 33 = .inl (cI, 8, .inl (zA mo_crossing))) (h_mo_kind : σ 34 = .inl (cI, 20000, .inl (zA mo_kind))) (h_mo_byX : σ 35 = .inl (cI, 20000, .inl (zA mo_byX))) (h_mo_byY : σ 36 = .inl (cI, 20000, .inl (zA mo_byY))) (h_mo_fieldOf : σ 37 = .inl (cI, 20000, .inl (zA mo_fieldOf))) (h_mo_isSewn : σ 38 = .inl (cZ, 8, .inl (zA mo_isSewn))) (hbg : ∀ i : Nat, i ≠ 19 → i ≠ 31 → i ≠ 32 → i ≠ 33 → i ≠ 34 → i ≠ 35 → i ≠ 36 → i ≠ 37 → i ≠ 38 → σ i = σ0 i) (ls : Array Slot) (hl : lv_has ls 5 [(0, .ref (ad 19)), (1, .int (zI x1)), (2, .int (zI x2)), (3, .int (zI x3))]), (∀ (σ : Nat → va_E) (H : Heap) (locs : List Loc) (hH : zH D ad N (zFr ad N s.heap.size) s.heap σ H locs) (h_mo : σ 19 = oC_mo ad mo_fields mo_bound mo_points mo_crossings mo_isKnown mo_commands mo_needleX mo_needleY mo_hasFile mo_format mo_length mo_heads mo_late mo_ran mo_program mo_thrown mo_rowY mo_stitches) (h_mo_colour : σ 20 = .inl (cI, 8, .inl (zA mo_colour))) (h_mo_layer : σ 21 = .inl (cI, 8, .inl (zA mo_layer))) (h_mo_isColumn : σ 22 = .inl (cZ, 8, .inl (zA mo_isColumn))) (h_mo_corners : σ 23 = .inl (cI, 8, .inl (zA mo_corners))) (h_mo_cornerX : σ 24 = .inl (cI, 64, .inl (zA mo_cornerX))) (h_mo_cornerY : σ 25 = .inl (cI, 64, .inl (zA mo_cornerY))) (h_mo_density : σ 26 = .inl (cI, 8, .inl (zA mo_density))) (h_mo_longest : σ 27 = .inl (cI, 8, .inl (zA mo_longest))) (h_mo_shift : σ 28 = .inl (cI, 8, .inl (zA mo_shift))) (h_mo_pull : σ 29 = .inl (cI, 8, .inl (zA mo_pull))) (h_mo_hasUnderlay : σ 30 = .inl (cZ, 8, .inl (zA mo_hasUnderlay))) (h_mo_pointX : σ 31 = .inl (cI, 4096, .inl (zA mo_pointX))) (h_mo_pointY : σ 32 = .inl (cI, 4096, .inl (zA mo_pointY))) (h_mo_crossing : σ 33 = .inl (cI, 8, .inl (zA mo_crossing))) (h_mo_kind : σ 34 = .inl (cI, 20000, .inl (zA mo_kind))) (h_mo_byX : σ 35 = .inl (cI, 20000, .inl (zA mo_byX))) (h_mo_byY : σ 36 = .inl (cI, 20000, .inl (zA mo_byY))) (h_mo_fieldOf : σ 37 = .inl (cI, 20000, .inl (zA mo_fieldOf))) (h_mo_isSewn : σ 38 = .inl (cZ, 8, .inl (zA mo_isSewn))) (hbg : ∀ i : Nat, i ≠ 19 → i ≠ 31 → i ≠ 32 → i ≠ 33 → i ≠ 34 → i ≠ 35 → i ≠ 36 → i ≠ 37 → i ≠ 38 → σ i = σ0 i) (ls : Array Slot) (hl : lv_has ls 5 [(2, .int (zI (x2')))]), W p l e rmX7_thread s m args below meth c H locs 0 0 Q (F0 m 113 ls [])) → W p l e rmX7_thread s m args below meth c H locs 0 0 Q (F0 m 23 ls []) := by
    intro mo_pointX mo_pointY mo_points mo_crossing mo_crossings mo_isKnown mo_commands mo_kind mo_byX mo_byY mo_fieldOf mo_needleX mo_needleY mo_isSewn mo_thrown mo_rowY x1 n
    induction n with
    | zero => intro x2 x3 x2' x3' hz; exact (zlp_0 hz).elim
    | succ n ih =>
      intro x2 x3 x2' x3' hz σ H locs hH h_mo h_mo_colour h_mo_layer h_mo_isColumn h_mo_corners h_mo_cornerX h_mo_cornerY h_mo_density h_mo_longest h_mo_shift h_mo_pull h_mo_hasUnderlay h_mo_pointX h_mo_pointY h_mo_crossing h_mo_kind h_mo_byX h_mo_byY h_mo_fieldOf h_mo_isSewn hbg ls hl kx
      obtain ⟨nx, hf, hnx⟩ := zlp_some hz
      have hf : f_X7_thread_L23 mo_fields mo_colour mo_layer mo_isColumn mo_corners mo_cornerX mo_cornerY mo_density mo_longest mo_shift mo_pull mo_hasUnderlay mo_bound mo_pointX mo_pointY mo_points mo_crossing mo_crossings mo_isKnown mo_commands mo_kind mo_byX mo_byY mo_fieldOf mo_needleX mo_needleY mo_isSewn mo_thrown mo_rowY x1 x2 x3 = some nx := hf
      have JL23_60 : ∀ (x2 : Int) (x3 : Int) (s0 : Int) (σ : Nat → va_E) (H : Heap) (locs : List Loc) (hH : zH D ad N (zFr ad N s.heap.size) s.heap σ H locs) (h_mo : σ 19 = oC_mo ad mo_fields mo_bound mo_points mo_crossings mo_isKnown mo_commands mo_needleX mo_needleY mo_hasFile mo_format mo_length mo_heads mo_late mo_ran mo_program mo_thrown mo_rowY mo_stitches) (h_mo_colour : σ 20 = .inl (cI, 8, .inl (zA mo_colour))) (h_mo_layer : σ 21 = .inl (cI, 8, .inl (zA mo_layer))) (h_mo_isColumn : σ 22 = .inl (cZ, 8, .inl (zA mo_isColumn))) (h_mo_corners : σ 23 = .inl (cI, 8, .inl (zA mo_corners))) (h_mo_cornerX : σ 24 = .inl (cI, 64, .inl (zA mo_cornerX))) (h_mo_cornerY : σ 25 = .inl (cI, 64, .inl (zA mo_cornerY))) (h_mo_density : σ 26 = .inl (cI, 8, .inl (zA mo_density))) (h_mo_longest : σ 27 = .inl (cI, 8, .inl (zA mo_longest))) (h_mo_shift : σ 28 = .inl (cI, 8, .inl (zA mo_shift))) (h_mo_pull : σ 29 = .inl (cI, 8, .inl (zA mo_pull))) (h_mo_hasUnderlay : σ 30 = .inl (cZ, 8, .inl (zA mo_hasUnderlay))) (h_mo_pointX : σ 31 = .inl (cI, 4096, .inl (zA mo_pointX))) (h_mo_pointY : σ 32 = .inl (cI, 4096, .inl (zA mo_pointY))) (h_mo_crossing : σ 33 = .inl (cI, 8, .inl (zA mo_crossing))) (h_mo_kind : σ 34 = .inl (cI, 20000, .inl (zA mo_kind))) (h_mo_byX : σ 35 = .inl (cI, 20000, .inl (zA mo_byX))) (h_mo_byY : σ 36 = .inl (cI, 20000, .inl (zA mo_byY))) (h_mo_fieldOf : σ 37 = .inl (cI, 20000, .inl (zA mo_fieldOf))) (h_mo_isSewn : σ 38 = .inl (cZ, 8, .inl (zA mo_isSewn))) (hbg : ∀ i : Nat, i ≠ 19 → i ≠ 31 → i ≠ 32 → i ≠ 33 → i ≠ 34 → i ≠ 35 → i ≠ 36 → i ≠ 37 → i ≠ 38 → σ i = σ0 i) (ls : Array Slot) (hl : lv_has ls 5 [(0, .ref (ad 19)), (1, .int (zI x1)), (2, .int (zI x2)), (3, .int (zI x3))]), f_X7_thread_L23_60 mo_fields mo_colour mo_layer mo_isColumn mo_corners mo_cornerX mo_cornerY mo_density mo_longest mo_shift mo_pull mo_hasUnderlay mo_bound mo_pointX mo_pointY mo_points mo_crossing mo_crossings mo_isKnown mo_commands mo_kind mo_byX mo_byY mo_fieldOf mo_needleX mo_needleY mo_isSewn mo_thrown mo_rowY x1 x2 x3 s0 = some nx → W p l e rmX7_thread s m args below meth c H locs 0 0 Q (F0 m 60 ls [.int (zI s0)]) := by
        intro x2 x3 s0 σ H locs hH h_mo h_mo_colour h_mo_layer h_mo_isColumn h_mo_corners h_mo_cornerX h_mo_cornerY h_mo_density h_mo_longest h_mo_shift h_mo_pull h_mo_hasUnderlay h_mo_pointX h_mo_pointY h_mo_crossing h_mo_kind h_mo_byX h_mo_byY h_mo_fieldOf h_mo_isSewn hbg ls hl hf
        unfold f_X7_thread_L23_60 at hf
        refine lv_istore (lv' := [(4, .int (zI s0)), (0, .ref (ad 19)), (1, .int (zI x1)), (2, .int (zI x2)), (3, .int (zI x3))]) hx hb dX7_thread_60 hl (by decide) rfl (fun ls hl => ?_)
        refine lv_iload_n hx hb dX7_thread_62 rfl (lv_at hl 3 rfl) ?_
        refine lv_iload hx hb dX7_thread_63 (lv_at hl 0 rfl) ?_
        obtain ⟨k1, hf⟩ := zck_some hf
        refine lz_if_eq (tgt := 104) hx hb k1 dX7_thread_65 (by decide) (fun c2 => ?_) (fun c2 => ?_)
        · replace hf := (if_pos c2).symm.trans hf
          refine lv_iconst (v := zI 0) hx hb dX7_thread_104 (by decide +kernel) ?_
          refine lz_iadd hx hb dX7_thread_105 ?_
          obtain ⟨v3, ev3, hf⟩ := zlt_some hf
          refine lz_nm ev3 ?_
          refine lv_istore_n (lv' := [(2, .int (zI v3)), (4, .int (zI s0)), (0, .ref (ad 19)), (1, .int (zI x1)), (3, .int (zI x3))]) hx hb dX7_thread_106 rfl hl (by decide) rfl (fun ls hl => ?_)
          refine lz_iinc (lv' := [(3, .int (zI (x3 + 1))), (2, .int (zI v3)), (4, .int (zI s0)), (0, .ref (ad 19)), (1, .int (zI x1))]) hx hb dX7_thread_107 hl (j := 4) rfl (by decide) rfl (fun ls hl => ?_)
          refine lv_goto (tgt := 23) hx hb dX7_thread_110 (by decide) ?_
          cases hf
          exact ih v3 (x3 + 1) _ _ hnx _ _ _ hH h_mo h_mo_colour h_mo_layer h_mo_isColumn h_mo_corners h_mo_cornerX h_mo_cornerY h_mo_density h_mo_longest h_mo_shift h_mo_pull h_mo_hasUnderlay h_mo_pointX h_mo_pointY h_mo_crossing h_mo_kind h_mo_byX h_mo_byY h_mo_fieldOf h_mo_isSewn hbg _ (lv_sub hl [3, 4, 1, 0] rfl) kx
        · replace hf := (if_neg c2).symm.trans hf
          refine lv_bipush (v := zI 100) hx hb dX7_thread_68 (by decide +kernel) ?_
          refine lv_aload_n hx hb dX7_thread_70 rfl (lv_at hl 1 rfl) ?_
          refine zget hx hb inlX7 rfl 21 rfl zk_t4_134 hts hown hK hH hk_mo h_mo rfl dX7_thread_71 ?_
          refine lv_iload_n hx hb dX7_thread_74 rfl (lv_at hl 4 rfl) ?_
          obtain ⟨k4, hf⟩ := zck_some hf
          refine ziald hx hb hK hH hk_mo_byX 0 h_mo_byX rfl k4 rfl dX7_thread_75 ?_
          refine lv_aload_n hx hb dX7_thread_76 rfl (lv_at hl 1 rfl) ?_
          refine zget hx hb inlX7 rfl 21 rfl zk_t4_134 hts hown hK hH hk_mo h_mo rfl dX7_thread_77 ?_
          refine lv_iload_n hx hb dX7_thread_80 rfl (lv_at hl 4 rfl) ?_
          obtain ⟨k5, hf⟩ := zck_some hf
          refine ziald hx hb hK hH hk_mo_byX 0 h_mo_byX rfl k5 rfl dX7_thread_81 ?_
          refine lz_imul hx hb dX7_thread_82 ?_
          refine lv_aload_n hx hb dX7_thread_83 rfl (lv_at hl 1 rfl) ?_
          refine zget hx hb inlX7 rfl 22 rfl zk_t4_135 hts hown hK hH hk_mo h_mo rfl dX7_thread_84 ?_
          refine lv_iload_n hx hb dX7_thread_87 rfl (lv_at hl 4 rfl) ?_
          obtain ⟨k6, hf⟩ := zck_some hf
          refine ziald hx hb hK hH hk_mo_byY 0 h_mo_byY rfl k6 rfl dX7_thread_88 ?_
          refine lv_aload_n hx hb dX7_thread_89 rfl (lv_at hl 1 rfl) ?_
          refine zget hx hb inlX7 rfl 22 rfl zk_t4_135 hts hown hK hH hk_mo h_mo rfl dX7_thread_90 ?_
          refine lv_iload_n hx hb dX7_thread_93 rfl (lv_at hl 4 rfl) ?_
          obtain ⟨k7, hf⟩ := zck_some hf
          refine ziald hx hb hK hH hk_mo_byY 0 h_mo_byY rfl k7 rfl dX7_thread_94 ?_
          refine lz_imul hx hb dX7_thread_95 ?_
          refine lz_iadd hx hb dX7_thread_96 ?_
          refine lz_imul hx hb dX7_thread_97 ?_
          obtain ⟨r8, k9, hf⟩ := zb1_some hf
          refine zcSi (As := [.int (zI (100 * (((mo_byX x3) * (mo_byX x3)) + ((mo_byY x3) * (mo_byY x3)))))]) (rest := [.int (zI x2)]) hx hb hml hown hts hl.1 hK hH hA (c_X7_root hI hN   k9) zk_t5_128 zk_t5_129 zk_t1_6 zk_t5_130 hd_X7_root rfl ⟨rfl, rfl, Nat.le_of_ble_eq_true rfl, Nat.le_of_ble_eq_true rfl⟩ ⟨Nat.zero_le _, Nat.zero_le _⟩ rfl (Nat.le_of_ble_eq_true rfl) dX7_thread_98 (fun q11 σ10 Hσ10 lσ10 hp hH => ?_)
          obtain ⟨hr1, hs1⟩ := hp; subst hr1; rw [hs1] at hH
          refine lv_goto (tgt := 105) hx hb dX7_thread_101 (by decide) ?_
          refine lz_iadd hx hb dX7_thread_105 ?_
          obtain ⟨v12, ev12, hf⟩ := zlt_some hf
          refine lz_nm ev12 ?_
          refine lv_istore_n (lv' := [(2, .int (zI v12)), (4, .int (zI s0)), (0, .ref (ad 19)), (1, .int (zI x1)), (3, .int (zI x3))]) hx hb dX7_thread_106 rfl hl (by decide) rfl (fun ls hl => ?_)
          refine lz_iinc (lv' := [(3, .int (zI (x3 + 1))), (2, .int (zI v12)), (4, .int (zI s0)), (0, .ref (ad 19)), (1, .int (zI x1))]) hx hb dX7_thread_107 hl (j := 4) rfl (by decide) rfl (fun ls hl => ?_)
          refine lv_goto (tgt := 23) hx hb dX7_thread_110 (by decide) ?_
          cases hf
          exact ih v12 (x3 + 1) _ _ hnx _ _ _ hH h_mo h_mo_colour h_mo_layer h_mo_isColumn h_mo_corners h_mo_cornerX h_mo_cornerY h_mo_density h_mo_longest h_mo_shift h_mo_pull h_mo_hasUnderlay h_mo_pointX h_mo_pointY h_mo_crossing h_mo_kind h_mo_byX h_mo_byY h_mo_fieldOf h_mo_isSewn hbg _ (lv_sub hl [3, 4, 1, 0] rfl) kx
      have JL23_59 : ∀ (x2 : Int) (x3 : Int) (σ : Nat → va_E) (H : Heap) (locs : List Loc) (hH : zH D ad N (zFr ad N s.heap.size) s.heap σ H locs) (h_mo : σ 19 = oC_mo ad mo_fields mo_bound mo_points mo_crossings mo_isKnown mo_commands mo_needleX mo_needleY mo_hasFile mo_format mo_length mo_heads mo_late mo_ran mo_program mo_thrown mo_rowY mo_stitches) (h_mo_colour : σ 20 = .inl (cI, 8, .inl (zA mo_colour))) (h_mo_layer : σ 21 = .inl (cI, 8, .inl (zA mo_layer))) (h_mo_isColumn : σ 22 = .inl (cZ, 8, .inl (zA mo_isColumn))) (h_mo_corners : σ 23 = .inl (cI, 8, .inl (zA mo_corners))) (h_mo_cornerX : σ 24 = .inl (cI, 64, .inl (zA mo_cornerX))) (h_mo_cornerY : σ 25 = .inl (cI, 64, .inl (zA mo_cornerY))) (h_mo_density : σ 26 = .inl (cI, 8, .inl (zA mo_density))) (h_mo_longest : σ 27 = .inl (cI, 8, .inl (zA mo_longest))) (h_mo_shift : σ 28 = .inl (cI, 8, .inl (zA mo_shift))) (h_mo_pull : σ 29 = .inl (cI, 8, .inl (zA mo_pull))) (h_mo_hasUnderlay : σ 30 = .inl (cZ, 8, .inl (zA mo_hasUnderlay))) (h_mo_pointX : σ 31 = .inl (cI, 4096, .inl (zA mo_pointX))) (h_mo_pointY : σ 32 = .inl (cI, 4096, .inl (zA mo_pointY))) (h_mo_crossing : σ 33 = .inl (cI, 8, .inl (zA mo_crossing))) (h_mo_kind : σ 34 = .inl (cI, 20000, .inl (zA mo_kind))) (h_mo_byX : σ 35 = .inl (cI, 20000, .inl (zA mo_byX))) (h_mo_byY : σ 36 = .inl (cI, 20000, .inl (zA mo_byY))) (h_mo_fieldOf : σ 37 = .inl (cI, 20000, .inl (zA mo_fieldOf))) (h_mo_isSewn : σ 38 = .inl (cZ, 8, .inl (zA mo_isSewn))) (hbg : ∀ i : Nat, i ≠ 19 → i ≠ 31 → i ≠ 32 → i ≠ 33 → i ≠ 34 → i ≠ 35 → i ≠ 36 → i ≠ 37 → i ≠ 38 → σ i = σ0 i) (ls : Array Slot) (hl : lv_has ls 5 [(0, .ref (ad 19)), (1, .int (zI x1)), (2, .int (zI x2)), (3, .int (zI x3))]), f_X7_thread_L23_59 mo_fields mo_colour mo_layer mo_isColumn mo_corners mo_cornerX mo_cornerY mo_density mo_longest mo_shift mo_pull mo_hasUnderlay mo_bound mo_pointX mo_pointY mo_points mo_crossing mo_crossings mo_isKnown mo_commands mo_kind mo_byX mo_byY mo_fieldOf mo_needleX mo_needleY mo_isSewn mo_thrown mo_rowY x1 x2 x3 = some nx → W p l e rmX7_thread s m args below meth c H locs 0 0 Q (F0 m 59 ls []) := by
        intro x2 x3 σ H locs hH h_mo h_mo_colour h_mo_layer h_mo_isColumn h_mo_corners h_mo_cornerX h_mo_cornerY h_mo_density h_mo_longest h_mo_shift h_mo_pull h_mo_hasUnderlay h_mo_pointX h_mo_pointY h_mo_crossing h_mo_kind h_mo_byX h_mo_byY h_mo_fieldOf h_mo_isSewn hbg ls hl hf
        unfold f_X7_thread_L23_59 at hf
        refine lv_iconst (v := zI 0) hx hb dX7_thread_59 (by decide +kernel) ?_
        exact JL23_60 x2 x3 0 _ _ _ hH h_mo h_mo_colour h_mo_layer h_mo_isColumn h_mo_corners h_mo_cornerX h_mo_cornerY h_mo_density h_mo_longest h_mo_shift h_mo_pull h_mo_hasUnderlay h_mo_pointX h_mo_pointY h_mo_crossing h_mo_kind h_mo_byX h_mo_byY h_mo_fieldOf h_mo_isSewn hbg _ (lv_sub hl [0, 1, 2, 3] rfl) hf
      unfold f_X7_thread_L23 at hf
      refine lv_iload_n hx hb dX7_thread_23 rfl (lv_at hl 3 rfl) ?_
      refine lv_aload_n hx hb dX7_thread_24 rfl (lv_at hl 0 rfl) ?_
      refine zget hx hb inlX7 rfl 19 rfl zk_t4_132 hts hown hK hH hk_mo h_mo rfl dX7_thread_25 ?_
      obtain ⟨k13, hf⟩ := zck_some hf
      refine lz_icmp_ge (tgt := 113) hx hb k13 dX7_thread_28 (by decide) (fun c14 => ?_) (fun c14 => ?_)
      · replace hf := (if_pos c14).symm.trans hf
        cases hf
        cases hnx
        exact kx _ _ _ hH h_mo h_mo_colour h_mo_layer h_mo_isColumn h_mo_corners h_mo_cornerX h_mo_cornerY h_mo_density h_mo_longest h_mo_shift h_mo_pull h_mo_hasUnderlay h_mo_pointX h_mo_pointY h_mo_crossing h_mo_kind h_mo_byX h_mo_byY h_mo_fieldOf h_mo_isSewn hbg _ (lv_sub hl [2] rfl)
      · replace hf := (if_neg c14).symm.trans hf
        refine lv_aload_n hx hb dX7_thread_31 rfl (lv_at hl 0 rfl) ?_
        refine zget hx hb inlX7 rfl 20 rfl zk_t4_133 hts hown hK hH hk_mo h_mo rfl dX7_thread_32 ?_
        refine lv_iload_n hx hb dX7_thread_35 rfl (lv_at hl 3 rfl) ?_
        obtain ⟨k15, hf⟩ := zck_some hf
        refine ziald hx hb hK hH hk_mo_kind 0 h_mo_kind rfl k15 rfl dX7_thread_36 ?_
        obtain ⟨k16, hf⟩ := zck_some hf
        refine lz_if_ne (tgt := 59) hx hb k16 dX7_thread_37 (by decide) (fun c17 => ?_) (fun c17 => ?_)
        · replace hf := (if_neg c17).symm.trans hf
          exact JL23_59 x2 x3 _ _ _ hH h_mo h_mo_colour h_mo_layer h_mo_isColumn h_mo_corners h_mo_cornerX h_mo_cornerY h_mo_density h_mo_longest h_mo_shift h_mo_pull h_mo_hasUnderlay h_mo_pointX h_mo_pointY h_mo_crossing h_mo_kind h_mo_byX h_mo_byY h_mo_fieldOf h_mo_isSewn hbg _ (lv_sub hl [0, 1, 2, 3] rfl) hf
        · replace hf := (if_pos c17).symm.trans hf
          refine lv_aload_n hx hb dX7_thread_40 rfl (lv_at hl 0 rfl) ?_
          refine zget hx hb inlX7 rfl 1 rfl zk_t4_114 hts hown hK hH hk_mo h_mo rfl dX7_thread_41 ?_
          refine lv_aload_n hx hb dX7_thread_44 rfl (lv_at hl 0 rfl) ?_
          refine zget hx hb inlX7 rfl 23 rfl zk_t4_136 hts hown hK hH hk_mo h_mo rfl dX7_thread_45 ?_
          refine lv_iload_n hx hb dX7_thread_48 rfl (lv_at hl 3 rfl) ?_
          obtain ⟨k18, hf⟩ := zck_some hf
          refine ziald hx hb hK hH hk_mo_fieldOf 0 h_mo_fieldOf rfl k18 rfl dX7_thread_49 ?_
          obtain ⟨k19, hf⟩ := zck_some hf
          refine ziald hx hb hK hH hk_mo_colour 0 h_mo_colour rfl k19 rfl dX7_thread_50 ?_
          refine lv_iload_n hx hb dX7_thread_51 rfl (lv_at hl 1 rfl) ?_
          obtain ⟨k20, hf⟩ := zck_some hf
          refine lz_icmp_ne (tgt := 59) hx hb k20 dX7_thread_52 (by decide) (fun c21 => ?_) (fun c21 => ?_)
          · replace hf := (if_neg c21).symm.trans hf
            exact JL23_59 x2 x3 _ _ _ hH h_mo h_mo_colour h_mo_layer h_mo_isColumn h_mo_corners h_mo_cornerX h_mo_cornerY h_mo_density h_mo_longest h_mo_shift h_mo_pull h_mo_hasUnderlay h_mo_pointX h_mo_pointY h_mo_crossing h_mo_kind h_mo_byX h_mo_byY h_mo_fieldOf h_mo_isSewn hbg _ (lv_sub hl [0, 1, 2, 3] rfl) hf
          · replace hf := (if_pos c21).symm.trans hf
            refine lv_iconst (v := zI 1) hx hb dX7_thread_55 (by decide +kernel) ?_
            refine lv_goto (tgt := 60) hx hb dX7_thread_56 (by decide) ?_
            exact JL23_60 x2 x3 1 _ _ _ hH h_mo h_mo_colour h_mo_layer h_mo_isColumn h_mo_corners h_mo_cornerX h_mo_cornerY h_mo_density h_mo_longest h_mo_shift h_mo_pull h_mo_hasUnderlay h_mo_pointX h_mo_pointY h_mo_crossing h_mo_kind h_mo_byX h_mo_byY h_mo_fieldOf h_mo_isSewn hbg _ (lv_sub hl [0, 1, 2, 3] rfl) hf
  unfold f_X7_thread at hf
  refine lv_aload_n hx hb dX7_thread_0 rfl (lv_at hl 0 rfl) ?_
  refine lv_iload_n hx hb dX7_thread_1 rfl (lv_at hl 1 rfl) ?_
  refine lv_iconst (v := zI 0) hx hb dX7_thread_2 (by decide +kernel) ?_
  refine lv_iconst (v := zI 5) hx hb dX7_thread_3 (by decide +kernel) ?_
  obtain ⟨r22, k23, hf⟩ := zb1_some hf
  refine zcSi (As := [.int (zI p1), .int (zI 0), .int (zI 5)]) (rest := [.ref (ad 19)]) hx hb hml hown hts hl.1 hK hH hA (c_X7_in hI hN   k23) zk_t5_8 zk_t5_9 zk_t1_6 zk_t5_10 hd_X7_in rfl ⟨rfl, rfl, Nat.le_of_ble_eq_true rfl, Nat.le_of_ble_eq_true rfl⟩ ⟨Nat.zero_le _, Nat.zero_le _⟩ rfl (Nat.le_of_ble_eq_true rfl) dX7_thread_4 (fun q25 σ24 Hσ24 lσ24 hp hH => ?_)
  obtain ⟨hr1, hs1⟩ := hp; subst hr1; rw [hs1] at hH
  obtain ⟨r26, u27, k28, hf⟩ := zb2_some hf
  refine zcVi (C := RX7) (As := [.int (zI r22)]) (rest := []) hx hb hml hown hts hl.1 hK hH hA (c_X7_asks hI hN  h_mo k28) zk_t5_11 zk_t5_13 zk_s2_13 zk_t1_6 zk_t5_14 hd_X7_asks rfl ⟨rfl, rfl, Nat.le_of_ble_eq_true rfl, Nat.le_of_ble_eq_true rfl⟩ ⟨Nat.zero_le _, Nat.zero_le _⟩ hk_mo h_mo rfl rfl rfl (Nat.le_of_ble_eq_true rfl) dX7_thread_7 (fun q30 σ29 Hσ29 lσ29 hp hH => ?_)
  obtain ⟨hr1, h_mo, hn⟩ := hp
  subst hr1
  have h_mo_colour := (hn 20 (by decide)).trans h_mo_colour
  have h_mo_layer := (hn 21 (by decide)).trans h_mo_layer
  have h_mo_isColumn := (hn 22 (by decide)).trans h_mo_isColumn
  have h_mo_corners := (hn 23 (by decide)).trans h_mo_corners
  have h_mo_cornerX := (hn 24 (by decide)).trans h_mo_cornerX
  have h_mo_cornerY := (hn 25 (by decide)).trans h_mo_cornerY
  have h_mo_density := (hn 26 (by decide)).trans h_mo_density
  have h_mo_longest := (hn 27 (by decide)).trans h_mo_longest
  have h_mo_shift := (hn 28 (by decide)).trans h_mo_shift
  have h_mo_pull := (hn 29 (by decide)).trans h_mo_pull
  have h_mo_hasUnderlay := (hn 30 (by decide)).trans h_mo_hasUnderlay
  have h_mo_pointX := (hn 31 (by decide)).trans h_mo_pointX
  have h_mo_pointY := (hn 32 (by decide)).trans h_mo_pointY
  have h_mo_crossing := (hn 33 (by decide)).trans h_mo_crossing
  have h_mo_kind := (hn 34 (by decide)).trans h_mo_kind
  have h_mo_byX := (hn 35 (by decide)).trans h_mo_byX
  have h_mo_byY := (hn 36 (by decide)).trans h_mo_byY
  have h_mo_fieldOf := (hn 37 (by decide)).trans h_mo_fieldOf
  have h_mo_isSewn := (hn 38 (by decide)).trans h_mo_isSewn
  have hbg : ∀ i : Nat, i ≠ 19 → i ≠ 31 → i ≠ 32 → i ≠ 33 → i ≠ 34 → i ≠ 35 → i ≠ 36 → i ≠ 37 → i ≠ 38 → σ29 i = σ0 i := fun i a0 a1 a2 a3 a4 a5 a6 a7 a8 => (hn i a0).trans (hbg i a0 a1 a2 a3 a4 a5 a6 a7 a8)
  obtain ⟨k31, hf⟩ := zck_some hf
  refine lz_if_ne (tgt := 15) hx hb k31 dX7_thread_10 (by decide) (fun c32 => ?_) (fun c32 => ?_)
  · replace hf := (if_neg c32).symm.trans hf
    refine lv_aload_n hx hb dX7_thread_15 rfl (lv_at hl 0 rfl) ?_
    obtain ⟨a33, a34, u35, a36, u37, u38, u39, a40, a41, a42, a43, u44, u45, a46, u47, k48, hf⟩ := zb15_some hf
    refine zcVv (C := RX7) (As := []) (rest := []) hx hb hml hown hts hl.1 hK hH hA (c_X7_reckons hI hN  h_mo h_mo_colour h_mo_layer h_mo_isColumn h_mo_corners h_mo_cornerX h_mo_cornerY h_mo_density h_mo_longest h_mo_shift h_mo_pull h_mo_hasUnderlay h_mo_pointX h_mo_pointY h_mo_crossing h_mo_kind h_mo_byX h_mo_byY h_mo_fieldOf h_mo_isSewn k48) zk_t5_43 zk_t5_45 zk_s3_0 zk_t1_6 zk_t5_46 hd_X7_reckons rfl ⟨rfl, rfl, Nat.le_of_ble_eq_true rfl, Nat.le_of_ble_eq_true rfl⟩ ⟨Nat.zero_le _, Nat.zero_le _⟩ hk_mo h_mo rfl rfl rfl (Nat.le_of_ble_eq_true rfl) dX7_thread_16 (fun σ49 Hσ49 lσ49 hp hH => ?_)
    obtain ⟨h_mo, h_mo_pointX, h_mo_pointY, h_mo_crossing, h_mo_kind, h_mo_byX, h_mo_byY, h_mo_fieldOf, h_mo_isSewn, hn⟩ := hp
    have h_mo_colour := (hn 20 (by decide) (by decide) (by decide) (by decide) (by decide) (by decide) (by decide) (by decide) (by decide)).trans h_mo_colour
    have h_mo_layer := (hn 21 (by decide) (by decide) (by decide) (by decide) (by decide) (by decide) (by decide) (by decide) (by decide)).trans h_mo_layer
    have h_mo_isColumn := (hn 22 (by decide) (by decide) (by decide) (by decide) (by decide) (by decide) (by decide) (by decide) (by decide)).trans h_mo_isColumn
    have h_mo_corners := (hn 23 (by decide) (by decide) (by decide) (by decide) (by decide) (by decide) (by decide) (by decide) (by decide)).trans h_mo_corners
    have h_mo_cornerX := (hn 24 (by decide) (by decide) (by decide) (by decide) (by decide) (by decide) (by decide) (by decide) (by decide)).trans h_mo_cornerX
    have h_mo_cornerY := (hn 25 (by decide) (by decide) (by decide) (by decide) (by decide) (by decide) (by decide) (by decide) (by decide)).trans h_mo_cornerY
    have h_mo_density := (hn 26 (by decide) (by decide) (by decide) (by decide) (by decide) (by decide) (by decide) (by decide) (by decide)).trans h_mo_density
    have h_mo_longest := (hn 27 (by decide) (by decide) (by decide) (by decide) (by decide) (by decide) (by decide) (by decide) (by decide)).trans h_mo_longest
    have h_mo_shift := (hn 28 (by decide) (by decide) (by decide) (by decide) (by decide) (by decide) (by decide) (by decide) (by decide)).trans h_mo_shift
    have h_mo_pull := (hn 29 (by decide) (by decide) (by decide) (by decide) (by decide) (by decide) (by decide) (by decide) (by decide)).trans h_mo_pull
    have h_mo_hasUnderlay := (hn 30 (by decide) (by decide) (by decide) (by decide) (by decide) (by decide) (by decide) (by decide) (by decide)).trans h_mo_hasUnderlay
    have hbg : ∀ i : Nat, i ≠ 19 → i ≠ 31 → i ≠ 32 → i ≠ 33 → i ≠ 34 → i ≠ 35 → i ≠ 36 → i ≠ 37 → i ≠ 38 → σ49 i = σ0 i := fun i a0 a1 a2 a3 a4 a5 a6 a7 a8 => (hn i a0 a1 a2 a3 a4 a5 a6 a7 a8).trans (hbg i a0 a1 a2 a3 a4 a5 a6 a7 a8)
    refine lv_iconst (v := zI 0) hx hb dX7_thread_19 (by decide +kernel) ?_
    refine lv_istore_n (lv' := [(2, .int (zI 0)), (0, .ref (ad 19)), (1, .int (zI p1))]) hx hb dX7_thread_20 rfl hl (by decide) rfl (fun ls hl => ?_)
    refine lv_iconst (v := zI 0) hx hb dX7_thread_21 (by decide +kernel) ?_
    refine lv_istore_n (lv' := [(3, .int (zI 0)), (2, .int (zI 0)), (0, .ref (ad 19)), (1, .int (zI p1))]) hx hb dX7_thread_22 rfl hl (by decide) rfl (fun ls hl => ?_)
    obtain ⟨w51, w52, k50, hf⟩ := zb2_some hf
    refine L23 a33 a34 u35 a36 u37 u38 u39 a40 a41 a42 a43 u44 u45 a46 u27 u47 p1 zFU 0 0 w51 w52 k50 _ _ _ hH h_mo h_mo_colour h_mo_layer h_mo_isColumn h_mo_corners h_mo_cornerX h_mo_cornerY h_mo_density h_mo_longest h_mo_shift h_mo_pull h_mo_hasUnderlay h_mo_pointX h_mo_pointY h_mo_crossing h_mo_kind h_mo_byX h_mo_byY h_mo_fieldOf h_mo_isSewn hbg _ (lv_sub hl [2, 3, 1, 0] rfl) (fun σ53 Hσ53 lσ53 hH h_mo h_mo_colour h_mo_layer h_mo_isColumn h_mo_corners h_mo_cornerX h_mo_cornerY h_mo_density h_mo_longest h_mo_shift h_mo_pull h_mo_hasUnderlay h_mo_pointX h_mo_pointY h_mo_crossing h_mo_kind h_mo_byX h_mo_byY h_mo_fieldOf h_mo_isSewn hbg ls hl => ?_)
    refine lv_iload_n hx hb dX7_thread_113 rfl (lv_at hl 0 rfl) ?_
    cases hf
    exact zreti hx hb hr hlocks hQ hH ⟨rfl, h_mo, h_mo_pointX, h_mo_pointY, h_mo_crossing, h_mo_kind, h_mo_byX, h_mo_byY, h_mo_fieldOf, h_mo_isSewn, hbg⟩ dX7_thread_114
  · replace hf := (if_pos c32).symm.trans hf
    refine lv_iconst (v := zI 0) hx hb dX7_thread_13 (by decide +kernel) ?_
    cases hf
    exact zreti hx hb hr hlocks hQ hH ⟨rfl, h_mo, h_mo_pointX, h_mo_pointY, h_mo_crossing, h_mo_kind, h_mo_byX, h_mo_byY, h_mo_fieldOf, h_mo_isSewn, hbg⟩ dX7_thread_14
abbrev rmX7_marks : Room := { frames := 1, cells := 0, slots := 0, locals := 22 }
theorem hd_X7_marks : yX7_marks.cls = RX7 ∧ yX7_marks.cls ≠ "java/lang/invoke/MethodHandle" ∧ yX7_marks.cls ≠ "java/lang/invoke/VarHandle" ∧ (parseMethodDescriptor yX7_marks.desc).map (fun d => d.parameters.length) = some 2 := by decide +kernel
set_option maxHeartbeats 4000000 in
set_option maxRecDepth 100000 in
theorem c_X7_marks {l : Launch} {D : va_G} {cI cZ cF cL cD : ClassId} {ad : Nat → Nat} {N : Nat} (hI : ∀ i j, i < N → j < N → ad i = ad j → i = j) (hN : 46 ≤ N) {σ0 : Nat → va_E} {sz : Nat} {mo_fields : Int} {mo_bound : Int} {mo_points : Int} {mo_crossings : Int} {mo_isKnown : Int} {mo_commands : Int} {mo_needleX : Int} {mo_needleY : Int} {mo_isTouched : Int → Int} {mo_hasFile : Int} {mo_format : Int} {mo_length : Int} {mo_heads : Int} {mo_late : Int} {mo_ran : Int} {mo_program : Int} {mo_thrown : Int} {mo_rowY : Int} {mo_stitches : Int} {p1 : Int} {p2 : Int} {R_mo_isTouched : Int → Int} (h_mo : σ0 19 = oC_mo ad mo_fields mo_bound mo_points mo_crossings mo_isKnown mo_commands mo_needleX mo_needleY mo_hasFile mo_format mo_length mo_heads mo_late mo_ran mo_program mo_thrown mo_rowY mo_stitches) (h_mo_isTouched : σ0 39 = .inl (cZ, 1024, .inl (zA mo_isTouched))) (hf : f_X7_marks mo_isTouched p1 p2 = some R_mo_isTouched) :
    Met l yX7_marks (Cond.code yX7_marks cX7_marks 3 none :: wsL_law) rmX7_marks (zPre D ad N (zT cI cZ cF cL cD) σ0 sz [.ref (ad 19), .int (zI p1), .int (zI p2)]) (zQv D ad N sz (fun σ' => σ' 39 = .inl (cZ, 1024, .inl (zA R_mo_isTouched)) ∧ ∀ i : Nat, i ≠ 39 → σ' i = σ0 i)) 0 0 (zFr ad N sz) := by
  refine zMet hI (plainFor_of_name (by decide)) (Nat.le_of_ble_eq_true rfl) ⟨rfl, rfl⟩ ?_
  intro p e s m args below meth c Q hx hb hr hlocks hml hown hts hK hsz hQ hH hA ls hl
  subst hsz
  have hk_mo : 19 < N := by omega
  have hk_mo_isTouched : 39 < N := by omega
  have hl : lv_has ls 3 [(0, .ref (ad 19)), (1, .int (zI p1)), (2, .int (zI p2))] := hl
  have hbg : ∀ i : Nat, i ≠ 39 → σ0 i = σ0 i := fun _ _ => rfl
  unfold f_X7_marks at hf
  refine lv_iload_n hx hb dX7_marks_0 rfl (lv_at hl 1 rfl) ?_
  refine lv_iconst (v := zI 0) hx hb dX7_marks_1 (by decide +kernel) ?_
  refine lv_bipush (v := zI 31) hx hb dX7_marks_2 (by decide +kernel) ?_
  obtain ⟨r1, k2, hf⟩ := zb1_some hf
  refine zcSi (As := [.int (zI p1), .int (zI 0), .int (zI 31)]) (rest := []) hx hb hml hown hts hl.1 hK hH hA (c_X7_in hI hN   k2) zk_t5_8 zk_t5_9 zk_t1_6 zk_t5_10 hd_X7_in rfl ⟨rfl, rfl, Nat.le_of_ble_eq_true rfl, Nat.le_of_ble_eq_true rfl⟩ ⟨Nat.zero_le _, Nat.zero_le _⟩ rfl (Nat.le_of_ble_eq_true rfl) dX7_marks_4 (fun q4 σ3 Hσ3 lσ3 hp hH => ?_)
  obtain ⟨hr1, hs1⟩ := hp; subst hr1; rw [hs1] at hH
  obtain ⟨k5, hf⟩ := zck_some hf
  refine lz_if_eq (tgt := 32) hx hb k5 dX7_marks_7 (by decide) (fun c6 => ?_) (fun c6 => ?_)
  · replace hf := (if_pos c6).symm.trans hf
    cases hf
    exact zretv hx hb hr hlocks hQ hH ⟨h_mo_isTouched, hbg⟩ dX7_marks_32
  · replace hf := (if_neg c6).symm.trans hf
    refine lv_iload_n hx hb dX7_marks_10 rfl (lv_at hl 2 rfl) ?_
    refine lv_iconst (v := zI 0) hx hb dX7_marks_11 (by decide +kernel) ?_
    refine lv_bipush (v := zI 31) hx hb dX7_marks_12 (by decide +kernel) ?_
    obtain ⟨r7, k8, hf⟩ := zb1_some hf
    refine zcSi (As := [.int (zI p2), .int (zI 0), .int (zI 31)]) (rest := []) hx hb hml hown hts hl.1 hK hH hA (c_X7_in hI hN   k8) zk_t5_8 zk_t5_9 zk_t1_6 zk_t5_10 hd_X7_in rfl ⟨rfl, rfl, Nat.le_of_ble_eq_true rfl, Nat.le_of_ble_eq_true rfl⟩ ⟨Nat.zero_le _, Nat.zero_le _⟩ rfl (Nat.le_of_ble_eq_true rfl) dX7_marks_14 (fun q10 σ9 Hσ9 lσ9 hp hH => ?_)
    obtain ⟨hr1, hs1⟩ := hp; subst hr1; rw [hs1] at hH
    obtain ⟨k11, hf⟩ := zck_some hf
    refine lz_if_eq (tgt := 32) hx hb k11 dX7_marks_17 (by decide) (fun c12 => ?_) (fun c12 => ?_)
    · replace hf := (if_pos c12).symm.trans hf
      cases hf
      exact zretv hx hb hr hlocks hQ hH ⟨h_mo_isTouched, hbg⟩ dX7_marks_32
    · replace hf := (if_neg c12).symm.trans hf
      refine lv_aload_n hx hb dX7_marks_20 rfl (lv_at hl 0 rfl) ?_
      refine zget hx hb inlX7 rfl 27 rfl zk_t4_140 hts hown hK hH hk_mo h_mo rfl dX7_marks_21 ?_
      refine lv_bipush (v := zI 32) hx hb dX7_marks_24 (by decide +kernel) ?_
      refine lv_iload_n hx hb dX7_marks_26 rfl (lv_at hl 2 rfl) ?_
      refine lz_imul hx hb dX7_marks_27 ?_
      refine lv_iload_n hx hb dX7_marks_28 rfl (lv_at hl 1 rfl) ?_
      refine lz_iadd hx hb dX7_marks_29 ?_
      refine lv_iconst (v := zI 1) hx hb dX7_marks_30 (by decide +kernel) ?_
      obtain ⟨k13, hf⟩ := zck_some hf
      obtain ⟨a15, ea15, hf⟩ := zlt_some hf
      refine zzast hx hb hK hH hk_mo_isTouched 1 h_mo_isTouched rfl k13 (Or.inr rfl) rfl dX7_marks_31 (fun σ14 Hσ14 lσ14 h_mo_isTouched hn hH => ?_)
      rw [← ea15] at h_mo_isTouched
      have h_mo := (hn 19 (by decide)).trans h_mo
      have hbg : ∀ i : Nat, i ≠ 39 → σ14 i = σ0 i := fun i a0 => (hn i a0).trans (hbg i a0)
      cases hf
      exact zretv hx hb hr hlocks hQ hH ⟨h_mo_isTouched, hbg⟩ dX7_marks_32
abbrev rmX7_touches : Room := { frames := 6, cells := 0, slots := 0, locals := 150 }
theorem hd_X7_touches : yX7_touches.cls = RX7 ∧ yX7_touches.cls ≠ "java/lang/invoke/MethodHandle" ∧ yX7_touches.cls ≠ "java/lang/invoke/VarHandle" ∧ (parseMethodDescriptor yX7_touches.desc).map (fun d => d.parameters.length) = some 1 := by decide +kernel
set_option maxHeartbeats 4000000 in
set_option maxRecDepth 100000 in
theorem c_X7_touches {l : Launch} {D : va_G} {cI cZ cF cL cD : ClassId} {ad : Nat → Nat} {N : Nat} (hI : ∀ i j, i < N → j < N → ad i = ad j → i = j) (hN : 46 ≤ N) {σ0 : Nat → va_E} {sz : Nat} {mo_fields : Int} {mo_colour : Int → Int} {mo_layer : Int → Int} {mo_isColumn : Int → Int} {mo_corners : Int → Int} {mo_cornerX : Int → Int} {mo_cornerY : Int → Int} {mo_density : Int → Int} {mo_longest : Int → Int} {mo_shift : Int → Int} {mo_pull : Int → Int} {mo_hasUnderlay : Int → Int} {mo_bound : Int} {mo_pointX : Int → Int} {mo_pointY : Int → Int} {mo_points : Int} {mo_crossing : Int → Int} {mo_crossings : Int} {mo_isKnown : Int} {mo_commands : Int} {mo_kind : Int → Int} {mo_byX : Int → Int} {mo_byY : Int → Int} {mo_fieldOf : Int → Int} {mo_needleX : Int} {mo_needleY : Int} {mo_isSewn : Int → Int} {mo_isTouched : Int → Int} {mo_hasFile : Int} {mo_format : Int} {mo_length : Int} {mo_heads : Int} {mo_late : Int} {mo_ran : Int} {mo_program : Int} {mo_thrown : Int} {mo_rowY : Int} {mo_stitches : Int} {p1 : Int} {R0 : Int} {R_mo_pointX : Int → Int} {R_mo_pointY : Int → Int} {R_mo_points : Int} {R_mo_crossing : Int → Int} {R_mo_crossings : Int} {R_mo_isKnown : Int} {R_mo_commands : Int} {R_mo_kind : Int → Int} {R_mo_byX : Int → Int} {R_mo_byY : Int → Int} {R_mo_fieldOf : Int → Int} {R_mo_needleX : Int} {R_mo_needleY : Int} {R_mo_isSewn : Int → Int} {R_mo_isTouched : Int → Int} {R_mo_rowY : Int} (h_mo : σ0 19 = oC_mo ad mo_fields mo_bound mo_points mo_crossings mo_isKnown mo_commands mo_needleX mo_needleY mo_hasFile mo_format mo_length mo_heads mo_late mo_ran mo_program mo_thrown mo_rowY mo_stitches) (h_mo_colour : σ0 20 = .inl (cI, 8, .inl (zA mo_colour))) (h_mo_layer : σ0 21 = .inl (cI, 8, .inl (zA mo_layer))) (h_mo_isColumn : σ0 22 = .inl (cZ, 8, .inl (zA mo_isColumn))) (h_mo_corners : σ0 23 = .inl (cI, 8, .inl (zA mo_corners))) (h_mo_cornerX : σ0 24 = .inl (cI, 64, .inl (zA mo_cornerX))) (h_mo_cornerY : σ0 25 = .inl (cI, 64, .inl (zA mo_cornerY))) (h_mo_density : σ0 26 = .inl (cI, 8, .inl (zA mo_density))) (h_mo_longest : σ0 27 = .inl (cI, 8, .inl (zA mo_longest))) (h_mo_shift : σ0 28 = .inl (cI, 8, .inl (zA mo_shift))) (h_mo_pull : σ0 29 = .inl (cI, 8, .inl (zA mo_pull))) (h_mo_hasUnderlay : σ0 30 = .inl (cZ, 8, .inl (zA mo_hasUnderlay))) (h_mo_pointX : σ0 31 = .inl (cI, 4096, .inl (zA mo_pointX))) (h_mo_pointY : σ0 32 = .inl (cI, 4096, .inl (zA mo_pointY))) (h_mo_crossing : σ0 33 = .inl (cI, 8, .inl (zA mo_crossing))) (h_mo_kind : σ0 34 = .inl (cI, 20000, .inl (zA mo_kind))) (h_mo_byX : σ0 35 = .inl (cI, 20000, .inl (zA mo_byX))) (h_mo_byY : σ0 36 = .inl (cI, 20000, .inl (zA mo_byY))) (h_mo_fieldOf : σ0 37 = .inl (cI, 20000, .inl (zA mo_fieldOf))) (h_mo_isSewn : σ0 38 = .inl (cZ, 8, .inl (zA mo_isSewn))) (h_mo_isTouched : σ0 39 = .inl (cZ, 1024, .inl (zA mo_isTouched))) (hf : f_X7_touches mo_fields mo_colour mo_layer mo_isColumn mo_corners mo_cornerX mo_cornerY mo_density mo_longest mo_shift mo_pull mo_hasUnderlay mo_bound mo_pointX mo_pointY mo_points mo_crossing mo_crossings mo_isKnown mo_commands mo_kind mo_byX mo_byY mo_fieldOf mo_needleX mo_needleY mo_isSewn mo_isTouched mo_rowY p1 = some (R0, R_mo_pointX, R_mo_pointY, R_mo_points, R_mo_crossing, R_mo_crossings, R_mo_isKnown, R_mo_commands, R_mo_kind, R_mo_byX, R_mo_byY, R_mo_fieldOf, R_mo_needleX, R_mo_needleY, R_mo_isSewn, R_mo_isTouched, R_mo_rowY)) :
    Met l yX7_touches (Cond.code yX7_touches cX7_touches 7 (some .int) :: wsL_law) rmX7_touches (zPre D ad N (zT cI cZ cF cL cD) σ0 sz [.ref (ad 19), .int (zI p1)]) (zQi D ad N sz (fun r σ' => r = zI R0 ∧ σ' 19 = oC_mo ad mo_fields mo_bound R_mo_points R_mo_crossings R_mo_isKnown R_mo_commands R_mo_needleX R_mo_needleY mo_hasFile mo_format mo_length mo_heads mo_late mo_ran mo_program mo_thrown R_mo_rowY mo_stitches ∧ σ' 31 = .inl (cI, 4096, .inl (zA R_mo_pointX)) ∧ σ' 32 = .inl (cI, 4096, .inl (zA R_mo_pointY)) ∧ σ' 33 = .inl (cI, 8, .inl (zA R_mo_crossing)) ∧ σ' 34 = .inl (cI, 20000, .inl (zA R_mo_kind)) ∧ σ' 35 = .inl (cI, 20000, .inl (zA R_mo_byX)) ∧ σ' 36 = .inl (cI, 20000, .inl (zA R_mo_byY)) ∧ σ' 37 = .inl (cI, 20000, .inl (zA R_mo_fieldOf)) ∧ σ' 38 = .inl (cZ, 8, .inl (zA R_mo_isSewn)) ∧ σ' 39 = .inl (cZ, 1024, .inl (zA R_mo_isTouched)) ∧ ∀ i : Nat, i ≠ 19 → i ≠ 31 → i ≠ 32 → i ≠ 33 → i ≠ 34 → i ≠ 35 → i ≠ 36 → i ≠ 37 → i ≠ 38 → i ≠ 39 → σ' i = σ0 i)) 0 0 (zFr ad N sz) := by
  refine zMet hI (plainFor_of_name (by decide)) (Nat.le_of_ble_eq_true rfl) ⟨rfl, rfl⟩ ?_
  intro p e s m args below meth c Q hx hb hr hlocks hml hown hts hK hsz hQ hH hA ls hl
  subst hsz
  have hk_mo : 19 < N := by omega
  have hk_mo_colour : 20 < N := by omega
  have hk_mo_layer : 21 < N := by omega
  have hk_mo_isColumn : 22 < N := by omega
  have hk_mo_corners : 23 < N := by omega
  have hk_mo_cornerX : 24 < N := by omega
  have hk_mo_cornerY : 25 < N := by omega
  have hk_mo_density : 26 < N := by omega
  have hk_mo_longest : 27 < N := by omega
  have hk_mo_shift : 28 < N := by omega
  have hk_mo_pull : 29 < N := by omega
  have hk_mo_hasUnderlay : 30 < N := by omega
  have hk_mo_pointX : 31 < N := by omega
  have hk_mo_pointY : 32 < N := by omega
  have hk_mo_crossing : 33 < N := by omega
  have hk_mo_kind : 34 < N := by omega
  have hk_mo_byX : 35 < N := by omega
  have hk_mo_byY : 36 < N := by omega
  have hk_mo_fieldOf : 37 < N := by omega
  have hk_mo_isSewn : 38 < N := by omega
  have hk_mo_isTouched : 39 < N := by omega
  have hl : lv_has ls 7 [(0, .ref (ad 19)), (1, .int (zI p1))] := hl
  have hbg : ∀ i : Nat, i ≠ 19 → i ≠ 31 → i ≠ 32 → i ≠ 33 → i ≠ 34 → i ≠ 35 → i ≠ 36 → i ≠ 37 → i ≠ 38 → i ≠ 39 → σ0 i = σ0 i := fun _ _ _ _ _ _ _ _ _ _ _ => rfl
  have L174 : ∀ (mo_pointX : Int → Int) (mo_pointY : Int → Int) (mo_points : Int) (mo_crossing : Int → Int) (mo_crossings : Int) (mo_isKnown : Int) (mo_commands : Int) (mo_kind : Int → Int) (mo_byX : Int → Int) (mo_byY : Int → Int) (mo_fieldOf : Int → Int) (mo_needleX : Int) (mo_needleY : Int) (mo_isSewn : Int → Int) (mo_isTouched : Int → Int) (mo_rowY : Int)  (n : Nat) (x4 : Int) (x5 : Int) (x4' : Int) (x5' : Int), zlp (fun z => f_X7_touches_L174 mo_fields mo_colour mo_layer mo_isColumn mo_corners mo_cornerX mo_cornerY mo_density mo_longest mo_shift mo_pull mo_hasUnderlay mo_bound mo_pointX mo_pointY mo_points mo_crossing mo_crossings mo_isKnown mo_commands mo_kind mo_byX mo_byY mo_fieldOf mo_needleX mo_needleY mo_isSewn mo_isTouched mo_rowY z.1 z.2) n (x4, x5) = some (x4', x5') → ∀ (σ : Nat → va_E) (H : Heap) (locs : List Loc) (hH : zH D ad N (zFr ad N s.heap.size) s.heap σ H locs) (h_mo : σ 19 = oC_mo ad mo_fields mo_bound mo_points mo_crossings mo_isKnown mo_commands mo_needleX mo_needleY mo_hasFile mo_format mo_length mo_heads mo_late mo_ran mo_program mo_thrown mo_rowY mo_stitches) (h_mo_colour : σ 20 = .inl (cI, 8, .inl (zA mo_colour))) (h_mo_layer : σ 21 = .inl (cI, 8, .inl (zA mo_layer))) (h_mo_isColumn : σ 22 = .inl (cZ, 8, .inl (zA mo_isColumn))) (h_mo_corners : σ 23 = .inl (cI, 8, .inl (zA mo_corners))) (h_mo_cornerX : σ 24 = .inl (cI, 64, .inl (zA mo_cornerX))) (h_mo_cornerY : σ 25 = .inl (cI, 64, .inl (zA mo_cornerY))) (h_mo_density : σ 26 = .inl (cI, 8, .inl (zA mo_density))) (h_mo_longest : σ 27 = .inl (cI, 8, .inl (zA mo_longest))) (h_mo_shift : σ 28 = .inl (cI, 8, .inl (zA mo_shift))) (h_mo_pull : σ 29 = .inl (cI, 8, .inl (zA mo_pull))) (h_mo_hasUnderlay : σ 30 = .inl (cZ, 8, .inl (zA mo_hasUnderlay))) (h_mo_pointX : σ 31 = .inl (cI, 4096, .inl (zA mo_pointX))) (h_mo_pointY : σ 32 = .inl (cI, 4096, .inl (zA mo_pointY))) (h_mo_crossing : σ 33 = .inl (cI, 8, .inl (zA mo_crossing))) (h_mo_kind : σ 34 = .inl (cI, 20000, .inl (zA mo_kind))) (h_mo_byX : σ 35 = .inl (cI, 20000, .inl (zA mo_byX))) (h_mo_byY : σ 36 = .inl (cI, 20000, .inl (zA mo_byY))) (h_mo_fieldOf : σ 37 = .inl (cI, 20000, .inl (zA mo_fieldOf))) (h_mo_isSewn : σ 38 = .inl (cZ, 8, .inl (zA mo_isSewn))) (h_mo_isTouched : σ 39 = .inl (cZ, 1024, .inl (zA mo_isTouched))) (hbg : ∀ i : Nat, i ≠ 19 → i ≠ 31 → i ≠ 32 → i ≠ 33 → i ≠ 34 → i ≠ 35 → i ≠ 36 → i ≠ 37 → i ≠ 38 → i ≠ 39 → σ i = σ0 i) (ls : Array Slot) (hl : lv_has ls 7 [(0, .ref (ad 19)), (4, .int (zI x4)), (5, .int (zI x5))]), (∀ (σ : Nat → va_E) (H : Heap) (locs : List Loc) (hH : zH D ad N (zFr ad N s.heap.size) s.heap σ H locs) (h_mo : σ 19 = oC_mo ad mo_fields mo_bound mo_points mo_crossings mo_isKnown mo_commands mo_needleX mo_needleY mo_hasFile mo_format mo_length mo_heads mo_late mo_ran mo_program mo_thrown mo_rowY mo_stitches) (h_mo_colour : σ 20 = .inl (cI, 8, .inl (zA mo_colour))) (h_mo_layer : σ 21 = .inl (cI, 8, .inl (zA mo_layer))) (h_mo_isColumn : σ 22 = .inl (cZ, 8, .inl (zA mo_isColumn))) (h_mo_corners : σ 23 = .inl (cI, 8, .inl (zA mo_corners))) (h_mo_cornerX : σ 24 = .inl (cI, 64, .inl (zA mo_cornerX))) (h_mo_cornerY : σ 25 = .inl (cI, 64, .inl (zA mo_cornerY))) (h_mo_density : σ 26 = .inl (cI, 8, .inl (zA mo_density))) (h_mo_longest : σ 27 = .inl (cI, 8, .inl (zA mo_longest))) (h_mo_shift : σ 28 = .inl (cI, 8, .inl (zA mo_shift))) (h_mo_pull : σ 29 = .inl (cI, 8, .inl (zA mo_pull))) (h_mo_hasUnderlay : σ 30 = .inl (cZ, 8, .inl (zA mo_hasUnderlay))) (h_mo_pointX : σ 31 = .inl (cI, 4096, .inl (zA mo_pointX))) (h_mo_pointY : σ 32 = .inl (cI, 4096, .inl (zA mo_pointY))) (h_mo_crossing : σ 33 = .inl (cI, 8, .inl (zA mo_crossing))) (h_mo_kind : σ 34 = .inl (cI, 20000, .inl (zA mo_kind))) (h_mo_byX : σ 35 = .inl (cI, 20000, .inl (zA mo_byX))) (h_mo_byY : σ 36 = .inl (cI, 20000, .inl (zA mo_byY))) (h_mo_fieldOf : σ 37 = .inl (cI, 20000, .inl (zA mo_fieldOf))) (h_mo_isSewn : σ 38 = .inl (cZ, 8, .inl (zA mo_isSewn))) (h_mo_isTouched : σ 39 = .inl (cZ, 1024, .inl (zA mo_isTouched))) (hbg : ∀ i : Nat, i ≠ 19 → i ≠ 31 → i ≠ 32 → i ≠ 33 → i ≠ 34 → i ≠ 35 → i ≠ 36 → i ≠ 37 → i ≠ 38 → i ≠ 39 → σ i = σ0 i) (ls : Array Slot) (hl : lv_has ls 7 [(4, .int (zI (x4')))]), W p l e rmX7_touches s m args below meth c H locs 0 0 Q (F0 m 208 ls [])) → W p l e rmX7_touches s m args below meth c H locs 0 0 Q (F0 m 174 ls []) := by
    intro mo_pointX mo_pointY mo_points mo_crossing mo_crossings mo_isKnown mo_commands mo_kind mo_byX mo_byY mo_fieldOf mo_needleX mo_needleY mo_isSewn mo_isTouched mo_rowY n
    induction n with
    | zero => intro x4 x5 x4' x5' hz; exact (zlp_0 hz).elim
    | succ n ih =>
      intro x4 x5 x4' x5' hz σ H locs hH h_mo h_mo_colour h_mo_layer h_mo_isColumn h_mo_corners h_mo_cornerX h_mo_cornerY h_mo_density h_mo_longest h_mo_shift h_mo_pull h_mo_hasUnderlay h_mo_pointX h_mo_pointY h_mo_crossing h_mo_kind h_mo_byX h_mo_byY h_mo_fieldOf h_mo_isSewn h_mo_isTouched hbg ls hl kx
      obtain ⟨nx, hf, hnx⟩ := zlp_some hz
      have hf : f_X7_touches_L174 mo_fields mo_colour mo_layer mo_isColumn mo_corners mo_cornerX mo_cornerY mo_density mo_longest mo_shift mo_pull mo_hasUnderlay mo_bound mo_pointX mo_pointY mo_points mo_crossing mo_crossings mo_isKnown mo_commands mo_kind mo_byX mo_byY mo_fieldOf mo_needleX mo_needleY mo_isSewn mo_isTouched mo_rowY x4 x5 = some nx := hf
      unfold f_X7_touches_L174 at hf
      refine lv_iload hx hb dX7_touches_174 (lv_at hl 2 rfl) ?_
      refine lv_sipush (v := zI 1024) hx hb dX7_touches_176 (by decide +kernel) ?_
      obtain ⟨k1, hf⟩ := zck_some hf
      refine lz_icmp_ge (tgt := 208) hx hb ⟨k1, by decide⟩ dX7_touches_179 (by decide) (fun c2 => ?_) (fun c2 => ?_)
      · replace hf := (if_pos c2).symm.trans hf
        cases hf
        cases hnx
        exact kx _ _ _ hH h_mo h_mo_colour h_mo_layer h_mo_isColumn h_mo_corners h_mo_cornerX h_mo_cornerY h_mo_density h_mo_longest h_mo_shift h_mo_pull h_mo_hasUnderlay h_mo_pointX h_mo_pointY h_mo_crossing h_mo_kind h_mo_byX h_mo_byY h_mo_fieldOf h_mo_isSewn h_mo_isTouched hbg _ (lv_sub hl [1] rfl)
      · replace hf := (if_neg c2).symm.trans hf
        refine lv_iload hx hb dX7_touches_182 (lv_at hl 1 rfl) ?_
        refine lv_aload_n hx hb dX7_touches_184 rfl (lv_at hl 0 rfl) ?_
        refine zget hx hb inlX7 rfl 27 rfl zk_t4_140 hts hown hK hH hk_mo h_mo rfl dX7_touches_185 ?_
        refine lv_iload hx hb dX7_touches_188 (lv_at hl 2 rfl) ?_
        obtain ⟨k3, hf⟩ := zck_some hf
        refine zzald hx hb hK hH hk_mo_isTouched 1 h_mo_isTouched rfl k3 rfl dX7_touches_190 ?_
        obtain ⟨k4, hf⟩ := zck_some hf
        refine lz_if_eq (tgt := 198) hx hb k4 dX7_touches_191 (by decide) (fun c5 => ?_) (fun c5 => ?_)
        · replace hf := (if_pos c5).symm.trans hf
          refine lv_iconst (v := zI 0) hx hb dX7_touches_198 (by decide +kernel) ?_
          refine lz_iadd hx hb dX7_touches_199 ?_
          obtain ⟨v6, ev6, hf⟩ := zlt_some hf
          refine lz_nm ev6 ?_
          refine lv_istore (lv' := [(4, .int (zI v6)), (0, .ref (ad 19)), (5, .int (zI x5))]) hx hb dX7_touches_200 hl (by decide) rfl (fun ls hl => ?_)
          refine lz_iinc (lv' := [(5, .int (zI (x5 + 1))), (4, .int (zI v6)), (0, .ref (ad 19))]) hx hb dX7_touches_202 hl (j := 2) rfl (by decide) rfl (fun ls hl => ?_)
          refine lv_goto (tgt := 174) hx hb dX7_touches_205 (by decide) ?_
          cases hf
          exact ih v6 (x5 + 1) _ _ hnx _ _ _ hH h_mo h_mo_colour h_mo_layer h_mo_isColumn h_mo_corners h_mo_cornerX h_mo_cornerY h_mo_density h_mo_longest h_mo_shift h_mo_pull h_mo_hasUnderlay h_mo_pointX h_mo_pointY h_mo_crossing h_mo_kind h_mo_byX h_mo_byY h_mo_fieldOf h_mo_isSewn h_mo_isTouched hbg _ (lv_sub hl [2, 1, 0] rfl) kx
        · replace hf := (if_neg c5).symm.trans hf
          refine lv_iconst (v := zI 1) hx hb dX7_touches_194 (by decide +kernel) ?_
          refine lv_goto (tgt := 199) hx hb dX7_touches_195 (by decide) ?_
          refine lz_iadd hx hb dX7_touches_199 ?_
          obtain ⟨v7, ev7, hf⟩ := zlt_some hf
          refine lz_nm ev7 ?_
          refine lv_istore (lv' := [(4, .int (zI v7)), (0, .ref (ad 19)), (5, .int (zI x5))]) hx hb dX7_touches_200 hl (by decide) rfl (fun ls hl => ?_)
          refine lz_iinc (lv' := [(5, .int (zI (x5 + 1))), (4, .int (zI v7)), (0, .ref (ad 19))]) hx hb dX7_touches_202 hl (j := 2) rfl (by decide) rfl (fun ls hl => ?_)
          refine lv_goto (tgt := 174) hx hb dX7_touches_205 (by decide) ?_
          cases hf
          exact ih v7 (x5 + 1) _ _ hnx _ _ _ hH h_mo h_mo_colour h_mo_layer h_mo_isColumn h_mo_corners h_mo_cornerX h_mo_cornerY h_mo_density h_mo_longest h_mo_shift h_mo_pull h_mo_hasUnderlay h_mo_pointX h_mo_pointY h_mo_crossing h_mo_kind h_mo_byX h_mo_byY h_mo_fieldOf h_mo_isSewn h_mo_isTouched hbg _ (lv_sub hl [2, 1, 0] rfl) kx
  have L33 : ∀ (mo_pointX : Int → Int) (mo_pointY : Int → Int) (mo_points : Int) (mo_crossing : Int → Int) (mo_crossings : Int) (mo_isKnown : Int) (mo_commands : Int) (mo_kind : Int → Int) (mo_byX : Int → Int) (mo_byY : Int → Int) (mo_fieldOf : Int → Int) (mo_needleX : Int) (mo_needleY : Int) (mo_isSewn : Int → Int) (mo_rowY : Int) (x1 : Int)  (n : Nat) (x2 : Int) (x3 : Int) (x4 : Int) (mo_isTouched : Int → Int) (x2' : Int) (x3' : Int) (x4' : Int) (mo_isTouched' : Int → Int), zlp (fun z => f_X7_touches_L33 mo_fields mo_colour mo_layer mo_isColumn mo_corners mo_cornerX mo_cornerY mo_density mo_longest mo_shift mo_pull mo_hasUnderlay mo_bound mo_pointX mo_pointY mo_points mo_crossing mo_crossings mo_isKnown mo_commands mo_kind mo_byX mo_byY mo_fieldOf mo_needleX mo_needleY mo_isSewn mo_rowY x1 z.1 z.2.1 z.2.2.1 z.2.2.2) n (x2, x3, x4, mo_isTouched) = some (x2', x3', x4', mo_isTouched') → ∀ (σ : Nat → va_E) (H : Heap) (locs : List Loc) (hH : zH D ad N (zFr ad N s.heap.size) s.heap σ H locs) (h_mo : σ 19 = oC_mo ad mo_fields mo_bound mo_points mo_crossings mo_isKnown mo_commands mo_needleX mo_needleY mo_hasFile mo_format mo_length mo_heads mo_late mo_ran mo_program mo_thrown mo_rowY mo_stitches) (h_mo_colour : σ 20 = .inl (cI, 8, .inl (zA mo_colour))) (h_mo_layer : σ 21 = .inl (cI, 8, .inl (zA mo_layer))) (h_mo_isColumn : σ 22 = .inl (cZ, 8, .inl (zA mo_isColumn))) (h_mo_corners : σ 23 = .inl (cI, 8, .inl (zA mo_corners))) (h_mo_cornerX : σ 24 = .inl (cI, 64, .inl (zA mo_cornerX))) (h_mo_cornerY : σ 25 = .inl (cI, 64, .inl (zA mo_cornerY))) (h_mo_density : σ 26 = .inl (cI, 8, .inl (zA mo_density))) (h_mo_longest : σ 27 = .inl (cI, 8, .inl (zA mo_longest))) (h_mo_shift : σ 28 = .inl (cI, 8, .inl (zA mo_shift))) (h_mo_pull : σ 29 = .inl (cI, 8, .inl (zA mo_pull))) (h_mo_hasUnderlay : σ 30 = .inl (cZ, 8, .inl (zA mo_hasUnderlay))) (h_mo_pointX : σ 31 = .inl (cI, 4096, .inl (zA mo_pointX))) (h_mo_pointY : σ 32 = .inl (cI, 4096, .inl (zA mo_pointY))) (h_mo_crossing : σ 33 = .inl (cI, 8, .inl (zA mo_crossing))) (h_mo_kind : σ 34 = .inl (cI, 20000, .inl (zA mo_kind))) (h_mo_byX : σ 35 = .inl (cI, 20000, .inl (zA mo_byX))) (h_mo_byY : σ 36 = .inl (cI, 20000, .inl (zA mo_byY))) (h_mo_fieldOf : σ 37 = .inl (cI, 20000, .inl (zA mo_fieldOf))) (h_mo_isSewn : σ 38 = .inl (cZ, 8, .inl (zA mo_isSewn))) (h_mo_isTouched : σ 39 = .inl (cZ, 1024, .inl (zA mo_isTouched))) (hbg : ∀ i : Nat, i ≠ 19 → i ≠ 31 → i ≠ 32 → i ≠ 33 → i ≠ 34 → i ≠ 35 → i ≠ 36 → i ≠ 37 → i ≠ 38 → i ≠ 39 → σ i = σ0 i) (ls : Array Slot) (hl : lv_has ls 7 [(0, .ref (ad 19)), (1, .int (zI x1)), (2, .int (zI x2)), (3, .int (zI x3)), (4, .int (zI x4))]), (∀ (σ : Nat → va_E) (H : Heap) (locs : List Loc) (hH : zH D ad N (zFr ad N s.heap.size) s.heap σ H locs) (h_mo : σ 19 = oC_mo ad mo_fields mo_bound mo_points mo_crossings mo_isKnown mo_commands mo_needleX mo_needleY mo_hasFile mo_format mo_length mo_heads mo_late mo_ran mo_program mo_thrown mo_rowY mo_stitches) (h_mo_colour : σ 20 = .inl (cI, 8, .inl (zA mo_colour))) (h_mo_layer : σ 21 = .inl (cI, 8, .inl (zA mo_layer))) (h_mo_isColumn : σ 22 = .inl (cZ, 8, .inl (zA mo_isColumn))) (h_mo_corners : σ 23 = .inl (cI, 8, .inl (zA mo_corners))) (h_mo_cornerX : σ 24 = .inl (cI, 64, .inl (zA mo_cornerX))) (h_mo_cornerY : σ 25 = .inl (cI, 64, .inl (zA mo_cornerY))) (h_mo_density : σ 26 = .inl (cI, 8, .inl (zA mo_density))) (h_mo_longest : σ 27 = .inl (cI, 8, .inl (zA mo_longest))) (h_mo_shift : σ 28 = .inl (cI, 8, .inl (zA mo_shift))) (h_mo_pull : σ 29 = .inl (cI, 8, .inl (zA mo_pull))) (h_mo_hasUnderlay : σ 30 = .inl (cZ, 8, .inl (zA mo_hasUnderlay))) (h_mo_pointX : σ 31 = .inl (cI, 4096, .inl (zA mo_pointX))) (h_mo_pointY : σ 32 = .inl (cI, 4096, .inl (zA mo_pointY))) (h_mo_crossing : σ 33 = .inl (cI, 8, .inl (zA mo_crossing))) (h_mo_kind : σ 34 = .inl (cI, 20000, .inl (zA mo_kind))) (h_mo_byX : σ 35 = .inl (cI, 20000, .inl (zA mo_byX))) (h_mo_byY : σ 36 = .inl (cI, 20000, .inl (zA mo_byY))) (h_mo_fieldOf : σ 37 = .inl (cI, 20000, .inl (zA mo_fieldOf))) (h_mo_isSewn : σ 38 = .inl (cZ, 8, .inl (zA mo_isSewn))) (h_mo_isTouched : σ 39 = .inl (cZ, 1024, .inl (zA (mo_isTouched')))) (hbg : ∀ i : Nat, i ≠ 19 → i ≠ 31 → i ≠ 32 → i ≠ 33 → i ≠ 34 → i ≠ 35 → i ≠ 36 → i ≠ 37 → i ≠ 38 → i ≠ 39 → σ i = σ0 i) (ls : Array Slot) (hl : lv_has ls 7 [(0, .ref (ad 19))]), W p l e rmX7_touches s m args below meth c H locs 0 0 Q (F0 m 168 ls [])) → W p l e rmX7_touches s m args below meth c H locs 0 0 Q (F0 m 33 ls []) := by
    intro mo_pointX mo_pointY mo_points mo_crossing mo_crossings mo_isKnown mo_commands mo_kind mo_byX mo_byY mo_fieldOf mo_needleX mo_needleY mo_isSewn mo_rowY x1 n
    induction n with
    | zero => intro x2 x3 x4 mo_isTouched x2' x3' x4' mo_isTouched' hz; exact (zlp_0 hz).elim
    | succ n ih =>
      intro x2 x3 x4 mo_isTouched x2' x3' x4' mo_isTouched' hz σ H locs hH h_mo h_mo_colour h_mo_layer h_mo_isColumn h_mo_corners h_mo_cornerX h_mo_cornerY h_mo_density h_mo_longest h_mo_shift h_mo_pull h_mo_hasUnderlay h_mo_pointX h_mo_pointY h_mo_crossing h_mo_kind h_mo_byX h_mo_byY h_mo_fieldOf h_mo_isSewn h_mo_isTouched hbg ls hl kx
      obtain ⟨nx, hf, hnx⟩ := zlp_some hz
      have hf : f_X7_touches_L33 mo_fields mo_colour mo_layer mo_isColumn mo_corners mo_cornerX mo_cornerY mo_density mo_longest mo_shift mo_pull mo_hasUnderlay mo_bound mo_pointX mo_pointY mo_points mo_crossing mo_crossings mo_isKnown mo_commands mo_kind mo_byX mo_byY mo_fieldOf mo_needleX mo_needleY mo_isSewn mo_rowY x1 x2 x3 x4 mo_isTouched = some nx := hf
      have JL33_142 : ∀ (mo_isTouched : Int → Int) (x2 : Int) (x3 : Int) (x4 : Int) (σ : Nat → va_E) (H : Heap) (locs : List Loc) (hH : zH D ad N (zFr ad N s.heap.size) s.heap σ H locs) (h_mo : σ 19 = oC_mo ad mo_fields mo_bound mo_points mo_crossings mo_isKnown mo_commands mo_needleX mo_needleY mo_hasFile mo_format mo_length mo_heads mo_late mo_ran mo_program mo_thrown mo_rowY mo_stitches) (h_mo_colour : σ 20 = .inl (cI, 8, .inl (zA mo_colour))) (h_mo_layer : σ 21 = .inl (cI, 8, .inl (zA mo_layer))) (h_mo_isColumn : σ 22 = .inl (cZ, 8, .inl (zA mo_isColumn))) (h_mo_corners : σ 23 = .inl (cI, 8, .inl (zA mo_corners))) (h_mo_cornerX : σ 24 = .inl (cI, 64, .inl (zA mo_cornerX))) (h_mo_cornerY : σ 25 = .inl (cI, 64, .inl (zA mo_cornerY))) (h_mo_density : σ 26 = .inl (cI, 8, .inl (zA mo_density))) (h_mo_longest : σ 27 = .inl (cI, 8, .inl (zA mo_longest))) (h_mo_shift : σ 28 = .inl (cI, 8, .inl (zA mo_shift))) (h_mo_pull : σ 29 = .inl (cI, 8, .inl (zA mo_pull))) (h_mo_hasUnderlay : σ 30 = .inl (cZ, 8, .inl (zA mo_hasUnderlay))) (h_mo_pointX : σ 31 = .inl (cI, 4096, .inl (zA mo_pointX))) (h_mo_pointY : σ 32 = .inl (cI, 4096, .inl (zA mo_pointY))) (h_mo_crossing : σ 33 = .inl (cI, 8, .inl (zA mo_crossing))) (h_mo_kind : σ 34 = .inl (cI, 20000, .inl (zA mo_kind))) (h_mo_byX : σ 35 = .inl (cI, 20000, .inl (zA mo_byX))) (h_mo_byY : σ 36 = .inl (cI, 20000, .inl (zA mo_byY))) (h_mo_fieldOf : σ 37 = .inl (cI, 20000, .inl (zA mo_fieldOf))) (h_mo_isSewn : σ 38 = .inl (cZ, 8, .inl (zA mo_isSewn))) (h_mo_isTouched : σ 39 = .inl (cZ, 1024, .inl (zA mo_isTouched))) (hbg : ∀ i : Nat, i ≠ 19 → i ≠ 31 → i ≠ 32 → i ≠ 33 → i ≠ 34 → i ≠ 35 → i ≠ 36 → i ≠ 37 → i ≠ 38 → i ≠ 39 → σ i = σ0 i) (ls : Array Slot) (hl : lv_has ls 7 [(0, .ref (ad 19)), (1, .int (zI x1)), (2, .int (zI x2)), (3, .int (zI x3)), (4, .int (zI x4))]), f_X7_touches_L33_142 mo_fields mo_colour mo_layer mo_isColumn mo_corners mo_cornerX mo_cornerY mo_density mo_longest mo_shift mo_pull mo_hasUnderlay mo_bound mo_pointX mo_pointY mo_points mo_crossing mo_crossings mo_isKnown mo_commands mo_kind mo_byX mo_byY mo_fieldOf mo_needleX mo_needleY mo_isSewn mo_isTouched mo_rowY x1 x2 x3 x4 = some nx → W p l e rmX7_touches s m args below meth c H locs 0 0 Q (F0 m 142 ls []) := by
        intro mo_isTouched x2 x3 x4 σ H locs hH h_mo h_mo_colour h_mo_layer h_mo_isColumn h_mo_corners h_mo_cornerX h_mo_cornerY h_mo_density h_mo_longest h_mo_shift h_mo_pull h_mo_hasUnderlay h_mo_pointX h_mo_pointY h_mo_crossing h_mo_kind h_mo_byX h_mo_byY h_mo_fieldOf h_mo_isSewn h_mo_isTouched hbg ls hl hf
        unfold f_X7_touches_L33_142 at hf
        refine lv_iload_n hx hb dX7_touches_142 rfl (lv_at hl 2 rfl) ?_
        refine lv_aload_n hx hb dX7_touches_143 rfl (lv_at hl 0 rfl) ?_
        refine zget hx hb inlX7 rfl 21 rfl zk_t4_134 hts hown hK hH hk_mo h_mo rfl dX7_touches_144 ?_
        refine lv_iload hx hb dX7_touches_147 (lv_at hl 4 rfl) ?_
        obtain ⟨k8, hf⟩ := zck_some hf
        refine ziald hx hb hK hH hk_mo_byX 0 h_mo_byX rfl k8 rfl dX7_touches_149 ?_
        refine lz_iadd hx hb dX7_touches_150 ?_
        obtain ⟨v9, ev9, hf⟩ := zlt_some hf
        refine lz_nm ev9 ?_
        refine lv_istore_n (lv' := [(2, .int (zI v9)), (0, .ref (ad 19)), (1, .int (zI x1)), (3, .int (zI x3)), (4, .int (zI x4))]) hx hb dX7_touches_151 rfl hl (by decide) rfl (fun ls hl => ?_)
        refine lv_iload_n hx hb dX7_touches_152 rfl (lv_at hl 3 rfl) ?_
        refine lv_aload_n hx hb dX7_touches_153 rfl (lv_at hl 1 rfl) ?_
        refine zget hx hb inlX7 rfl 22 rfl zk_t4_135 hts hown hK hH hk_mo h_mo rfl dX7_touches_154 ?_
        refine lv_iload hx hb dX7_touches_157 (lv_at hl 4 rfl) ?_
        obtain ⟨k10, hf⟩ := zck_some hf
        refine ziald hx hb hK hH hk_mo_byY 0 h_mo_byY rfl k10 rfl dX7_touches_159 ?_
        refine lz_iadd hx hb dX7_touches_160 ?_
        obtain ⟨v11, ev11, hf⟩ := zlt_some hf
        refine lz_nm ev11 ?_
        refine lv_istore_n (lv' := [(3, .int (zI v11)), (2, .int (zI v9)), (0, .ref (ad 19)), (1, .int (zI x1)), (4, .int (zI x4))]) hx hb dX7_touches_161 rfl hl (by decide) rfl (fun ls hl => ?_)
        refine lz_iinc (lv' := [(4, .int (zI (x4 + 1))), (3, .int (zI v11)), (2, .int (zI v9)), (0, .ref (ad 19)), (1, .int (zI x1))]) hx hb dX7_touches_162 hl (j := 4) rfl (by decide) rfl (fun ls hl => ?_)
        refine lv_goto (tgt := 33) hx hb dX7_touches_165 (by decide) ?_
        cases hf
        exact ih v9 v11 (x4 + 1) mo_isTouched _ _ _ _ hnx _ _ _ hH h_mo h_mo_colour h_mo_layer h_mo_isColumn h_mo_corners h_mo_cornerX h_mo_cornerY h_mo_density h_mo_longest h_mo_shift h_mo_pull h_mo_hasUnderlay h_mo_pointX h_mo_pointY h_mo_crossing h_mo_kind h_mo_byX h_mo_byY h_mo_fieldOf h_mo_isSewn h_mo_isTouched hbg _ (lv_sub hl [3, 4, 2, 1, 0] rfl) kx
      have L91 : ∀ (mo_pointX : Int → Int) (mo_pointY : Int → Int) (mo_points : Int) (mo_crossing : Int → Int) (mo_crossings : Int) (mo_isKnown : Int) (mo_commands : Int) (mo_kind : Int → Int) (mo_byX : Int → Int) (mo_byY : Int → Int) (mo_fieldOf : Int → Int) (mo_needleX : Int) (mo_needleY : Int) (mo_isSewn : Int → Int) (mo_rowY : Int) (x1 : Int) (x2 : Int) (x3 : Int) (x4 : Int) (x5 : Int)  (n : Nat) (x6 : Int) (mo_isTouched : Int → Int) (x6' : Int) (mo_isTouched' : Int → Int), zlp (fun z => f_X7_touches_L91 mo_fields mo_colour mo_layer mo_isColumn mo_corners mo_cornerX mo_cornerY mo_density mo_longest mo_shift mo_pull mo_hasUnderlay mo_bound mo_pointX mo_pointY mo_points mo_crossing mo_crossings mo_isKnown mo_commands mo_kind mo_byX mo_byY mo_fieldOf mo_needleX mo_needleY mo_isSewn mo_rowY x1 x2 x3 x4 x5 z.1 z.2) n (x6, mo_isTouched) = some (x6', mo_isTouched') → ∀ (σ : Nat → va_E) (H : Heap) (locs : List Loc) (hH : zH D ad N (zFr ad N s.heap.size) s.heap σ H locs) (h_mo : σ 19 = oC_mo ad mo_fields mo_bound mo_points mo_crossings mo_isKnown mo_commands mo_needleX mo_needleY mo_hasFile mo_format mo_length mo_heads mo_late mo_ran mo_program mo_thrown mo_rowY mo_stitches) (h_mo_colour : σ 20 = .inl (cI, 8, .inl (zA mo_colour))) (h_mo_layer : σ 21 = .inl (cI, 8, .inl (zA mo_layer))) (h_mo_isColumn : σ 22 = .inl (cZ, 8, .inl (zA mo_isColumn))) (h_mo_corners : σ 23 = .inl (cI, 8, .inl (zA mo_corners))) (h_mo_cornerX : σ 24 = .inl (cI, 64, .inl (zA mo_cornerX))) (h_mo_cornerY : σ 25 = .inl (cI, 64, .inl (zA mo_cornerY))) (h_mo_density : σ 26 = .inl (cI, 8, .inl (zA mo_density))) (h_mo_longest : σ 27 = .inl (cI, 8, .inl (zA mo_longest))) (h_mo_shift : σ 28 = .inl (cI, 8, .inl (zA mo_shift))) (h_mo_pull : σ 29 = .inl (cI, 8, .inl (zA mo_pull))) (h_mo_hasUnderlay : σ 30 = .inl (cZ, 8, .inl (zA mo_hasUnderlay))) (h_mo_pointX : σ 31 = .inl (cI, 4096, .inl (zA mo_pointX))) (h_mo_pointY : σ 32 = .inl (cI, 4096, .inl (zA mo_pointY))) (h_mo_crossing : σ 33 = .inl (cI, 8, .inl (zA mo_crossing))) (h_mo_kind : σ 34 = .inl (cI, 20000, .inl (zA mo_kind))) (h_mo_byX : σ 35 = .inl (cI, 20000, .inl (zA mo_byX))) (h_mo_byY : σ 36 = .inl (cI, 20000, .inl (zA mo_byY))) (h_mo_fieldOf : σ 37 = .inl (cI, 20000, .inl (zA mo_fieldOf))) (h_mo_isSewn : σ 38 = .inl (cZ, 8, .inl (zA mo_isSewn))) (h_mo_isTouched : σ 39 = .inl (cZ, 1024, .inl (zA mo_isTouched))) (hbg : ∀ i : Nat, i ≠ 19 → i ≠ 31 → i ≠ 32 → i ≠ 33 → i ≠ 34 → i ≠ 35 → i ≠ 36 → i ≠ 37 → i ≠ 38 → i ≠ 39 → σ i = σ0 i) (ls : Array Slot) (hl : lv_has ls 7 [(0, .ref (ad 19)), (1, .int (zI x1)), (2, .int (zI x2)), (3, .int (zI x3)), (4, .int (zI x4)), (5, .int (zI x5)), (6, .int (zI x6))]), (∀ (σ : Nat → va_E) (H : Heap) (locs : List Loc) (hH : zH D ad N (zFr ad N s.heap.size) s.heap σ H locs) (h_mo : σ 19 = oC_mo ad mo_fields mo_bound mo_points mo_crossings mo_isKnown mo_commands mo_needleX mo_needleY mo_hasFile mo_format mo_length mo_heads mo_late mo_ran mo_program mo_thrown mo_rowY mo_stitches) (h_mo_colour : σ 20 = .inl (cI, 8, .inl (zA mo_colour))) (h_mo_layer : σ 21 = .inl (cI, 8, .inl (zA mo_layer))) (h_mo_isColumn : σ 22 = .inl (cZ, 8, .inl (zA mo_isColumn))) (h_mo_corners : σ 23 = .inl (cI, 8, .inl (zA mo_corners))) (h_mo_cornerX : σ 24 = .inl (cI, 64, .inl (zA mo_cornerX))) (h_mo_cornerY : σ 25 = .inl (cI, 64, .inl (zA mo_cornerY))) (h_mo_density : σ 26 = .inl (cI, 8, .inl (zA mo_density))) (h_mo_longest : σ 27 = .inl (cI, 8, .inl (zA mo_longest))) (h_mo_shift : σ 28 = .inl (cI, 8, .inl (zA mo_shift))) (h_mo_pull : σ 29 = .inl (cI, 8, .inl (zA mo_pull))) (h_mo_hasUnderlay : σ 30 = .inl (cZ, 8, .inl (zA mo_hasUnderlay))) (h_mo_pointX : σ 31 = .inl (cI, 4096, .inl (zA mo_pointX))) (h_mo_pointY : σ 32 = .inl (cI, 4096, .inl (zA mo_pointY))) (h_mo_crossing : σ 33 = .inl (cI, 8, .inl (zA mo_crossing))) (h_mo_kind : σ 34 = .inl (cI, 20000, .inl (zA mo_kind))) (h_mo_byX : σ 35 = .inl (cI, 20000, .inl (zA mo_byX))) (h_mo_byY : σ 36 = .inl (cI, 20000, .inl (zA mo_byY))) (h_mo_fieldOf : σ 37 = .inl (cI, 20000, .inl (zA mo_fieldOf))) (h_mo_isSewn : σ 38 = .inl (cZ, 8, .inl (zA mo_isSewn))) (h_mo_isTouched : σ 39 = .inl (cZ, 1024, .inl (zA (mo_isTouched')))) (hbg : ∀ i : Nat, i ≠ 19 → i ≠ 31 → i ≠ 32 → i ≠ 33 → i ≠ 34 → i ≠ 35 → i ≠ 36 → i ≠ 37 → i ≠ 38 → i ≠ 39 → σ i = σ0 i) (ls : Array Slot) (hl : lv_has ls 7 [(0, .ref (ad 19)), (1, .int (zI x1)), (2, .int (zI x2)), (3, .int (zI x3)), (4, .int (zI x4))]), W p l e rmX7_touches s m args below meth c H locs 0 0 Q (F0 m 142 ls [])) → W p l e rmX7_touches s m args below meth c H locs 0 0 Q (F0 m 91 ls []) := by
        intro mo_pointX mo_pointY mo_points mo_crossing mo_crossings mo_isKnown mo_commands mo_kind mo_byX mo_byY mo_fieldOf mo_needleX mo_needleY mo_isSewn mo_rowY x1 x2 x3 x4 x5 n
        induction n with
        | zero => intro x6 mo_isTouched x6' mo_isTouched' hz; exact (zlp_0 hz).elim
        | succ n ih =>
          intro x6 mo_isTouched x6' mo_isTouched' hz σ H locs hH h_mo h_mo_colour h_mo_layer h_mo_isColumn h_mo_corners h_mo_cornerX h_mo_cornerY h_mo_density h_mo_longest h_mo_shift h_mo_pull h_mo_hasUnderlay h_mo_pointX h_mo_pointY h_mo_crossing h_mo_kind h_mo_byX h_mo_byY h_mo_fieldOf h_mo_isSewn h_mo_isTouched hbg ls hl kx
          obtain ⟨nx, hf, hnx⟩ := zlp_some hz
          have hf : f_X7_touches_L91 mo_fields mo_colour mo_layer mo_isColumn mo_corners mo_cornerX mo_cornerY mo_density mo_longest mo_shift mo_pull mo_hasUnderlay mo_bound mo_pointX mo_pointY mo_points mo_crossing mo_crossings mo_isKnown mo_commands mo_kind mo_byX mo_byY mo_fieldOf mo_needleX mo_needleY mo_isSewn mo_rowY x1 x2 x3 x4 x5 x6 mo_isTouched = some nx := hf
          unfold f_X7_touches_L91 at hf
          refine lv_iload hx hb dX7_touches_91 (lv_at hl 6 rfl) ?_
          refine lv_iload hx hb dX7_touches_93 (lv_at hl 5 rfl) ?_
          obtain ⟨k12, hf⟩ := zck_some hf
          refine lz_icmp_gt (tgt := 142) hx hb k12 dX7_touches_95 (by decide) (fun c13 => ?_) (fun c13 => ?_)
          · replace hf := (if_pos c13).symm.trans hf
            cases hf
            cases hnx
            exact kx _ _ _ hH h_mo h_mo_colour h_mo_layer h_mo_isColumn h_mo_corners h_mo_cornerX h_mo_cornerY h_mo_density h_mo_longest h_mo_shift h_mo_pull h_mo_hasUnderlay h_mo_pointX h_mo_pointY h_mo_crossing h_mo_kind h_mo_byX h_mo_byY h_mo_fieldOf h_mo_isSewn h_mo_isTouched hbg _ (lv_sub hl [0, 1, 2, 3, 4] rfl)
          · replace hf := (if_neg c13).symm.trans hf
            refine lv_aload_n hx hb dX7_touches_98 rfl (lv_at hl 0 rfl) ?_
            refine lv_iload_n hx hb dX7_touches_99 rfl (lv_at hl 2 rfl) ?_
            refine lv_aload_n hx hb dX7_touches_100 rfl (lv_at hl 0 rfl) ?_
            refine zget hx hb inlX7 rfl 21 rfl zk_t4_134 hts hown hK hH hk_mo h_mo rfl dX7_touches_101 ?_
            refine lv_iload hx hb dX7_touches_104 (lv_at hl 4 rfl) ?_
            obtain ⟨k14, hf⟩ := zck_some hf
            refine ziald hx hb hK hH hk_mo_byX 0 h_mo_byX rfl k14 rfl dX7_touches_106 ?_
            refine lv_iload hx hb dX7_touches_107 (lv_at hl 6 rfl) ?_
            refine lz_imul hx hb dX7_touches_109 ?_
            refine lv_iload hx hb dX7_touches_110 (lv_at hl 5 rfl) ?_
            obtain ⟨r15, k16, hf⟩ := zb1_some hf
            refine zcSi (As := [.int (zI ((mo_byX x4) * x6)), .int (zI x5)]) (rest := [.int (zI x2), .ref (ad 19)]) hx hb hml hown hts hl.1 hK hH hA (c_X7_down hI hN   k16) zk_t5_65 zk_t5_66 zk_t1_6 zk_t5_67 hd_X7_down rfl ⟨rfl, rfl, Nat.le_of_ble_eq_true rfl, Nat.le_of_ble_eq_true rfl⟩ ⟨Nat.zero_le _, Nat.zero_le _⟩ rfl (Nat.le_of_ble_eq_true rfl) dX7_touches_112 (fun q18 σ17 Hσ17 lσ17 hp hH => ?_)
            obtain ⟨hr1, hs1⟩ := hp; subst hr1; rw [hs1] at hH
            refine lz_iadd hx hb dX7_touches_115 ?_
            refine lv_iload_n hx hb dX7_touches_116 rfl (lv_at hl 3 rfl) ?_
            refine lv_aload_n hx hb dX7_touches_117 rfl (lv_at hl 0 rfl) ?_
            refine zget hx hb inlX7 rfl 22 rfl zk_t4_135 hts hown hK hH hk_mo h_mo rfl dX7_touches_118 ?_
            refine lv_iload hx hb dX7_touches_121 (lv_at hl 4 rfl) ?_
            obtain ⟨k19, hf⟩ := zck_some hf
            refine ziald hx hb hK hH hk_mo_byY 0 h_mo_byY rfl k19 rfl dX7_touches_123 ?_
            refine lv_iload hx hb dX7_touches_124 (lv_at hl 6 rfl) ?_
            refine lz_imul hx hb dX7_touches_126 ?_
            refine lv_iload hx hb dX7_touches_127 (lv_at hl 5 rfl) ?_
            obtain ⟨r20, k21, hf⟩ := zb1_some hf
            refine zcSi (As := [.int (zI ((mo_byY x4) * x6)), .int (zI x5)]) (rest := [.int (zI x3), .int (zI (x2 + r15)), .ref (ad 19)]) hx hb hml hown hts hl.1 hK hH hA (c_X7_down hI hN   k21) zk_t5_65 zk_t5_66 zk_t1_6 zk_t5_67 hd_X7_down rfl ⟨rfl, rfl, Nat.le_of_ble_eq_true rfl, Nat.le_of_ble_eq_true rfl⟩ ⟨Nat.zero_le _, Nat.zero_le _⟩ rfl (Nat.le_of_ble_eq_true rfl) dX7_touches_129 (fun q23 σ22 Hσ22 lσ22 hp hH => ?_)
            obtain ⟨hr1, hs1⟩ := hp; subst hr1; rw [hs1] at hH
            refine lz_iadd hx hb dX7_touches_132 ?_
            obtain ⟨a24, k25, hf⟩ := zb1_some hf
            refine zcVv (C := RX7) (As := [.int (zI (x2 + r15)), .int (zI (x3 + r20))]) (rest := []) hx hb hml hown hts hl.1 hK hH hA (c_X7_marks hI hN  h_mo h_mo_isTouched k25) zk_t5_139 zk_t5_141 zk_s3_14 zk_t1_6 zk_t5_142 hd_X7_marks rfl ⟨rfl, rfl, Nat.le_of_ble_eq_true rfl, Nat.le_of_ble_eq_true rfl⟩ ⟨Nat.zero_le _, Nat.zero_le _⟩ hk_mo h_mo rfl rfl rfl (Nat.le_of_ble_eq_true rfl) dX7_touches_133 (fun σ26 Hσ26 lσ26 hp hH => ?_)
            obtain ⟨h_mo_isTouched, hn⟩ := hp
            have h_mo := (hn 19 (by decide)).trans h_mo
            have h_mo_colour := (hn 20 (by decide)).trans h_mo_colour
            have h_mo_layer := (hn 21 (by decide)).trans h_mo_layer
            have h_mo_isColumn := (hn 22 (by decide)).trans h_mo_isColumn
            have h_mo_corners := (hn 23 (by decide)).trans h_mo_corners
            have h_mo_cornerX := (hn 24 (by decide)).trans h_mo_cornerX
            have h_mo_cornerY := (hn 25 (by decide)).trans h_mo_cornerY
            have h_mo_density := (hn 26 (by decide)).trans h_mo_density
            have h_mo_longest := (hn 27 (by decide)).trans h_mo_longest
            have h_mo_shift := (hn 28 (by decide)).trans h_mo_shift
            have h_mo_pull := (hn 29 (by decide)).trans h_mo_pull
            have h_mo_hasUnderlay := (hn 30 (by decide)).trans h_mo_hasUnderlay
            have h_mo_pointX := (hn 31 (by decide)).trans h_mo_pointX
            have h_mo_pointY := (hn 32 (by decide)).trans h_mo_pointY
            have h_mo_crossing := (hn 33 (by decide)).trans h_mo_crossing
            have h_mo_kind := (hn 34 (by decide)).trans h_mo_kind
            have h_mo_byX := (hn 35 (by decide)).trans h_mo_byX
            have h_mo_byY := (hn 36 (by decide)).trans h_mo_byY
            have h_mo_fieldOf := (hn 37 (by decide)).trans h_mo_fieldOf
            have h_mo_isSewn := (hn 38 (by decide)).trans h_mo_isSewn
            have hbg : ∀ i : Nat, i ≠ 19 → i ≠ 31 → i ≠ 32 → i ≠ 33 → i ≠ 34 → i ≠ 35 → i ≠ 36 → i ≠ 37 → i ≠ 38 → i ≠ 39 → σ26 i = σ0 i := fun i a0 a1 a2 a3 a4 a5 a6 a7 a8 a9 => (hn i a9).trans (hbg i a0 a1 a2 a3 a4 a5 a6 a7 a8 a9)
            refine lz_iinc (lv' := [(6, .int (zI (x6 + 1))), (0, .ref (ad 19)), (1, .int (zI x1)), (2, .int (zI x2)), (3, .int (zI x3)), (4, .int (zI x4)), (5, .int (zI x5))]) hx hb dX7_touches_136 hl (j := 6) rfl (by decide) rfl (fun ls hl => ?_)
            refine lv_goto (tgt := 91) hx hb dX7_touches_139 (by decide) ?_
            cases hf
            exact ih (x6 + 1) a24 _ _ hnx _ _ _ hH h_mo h_mo_colour h_mo_layer h_mo_isColumn h_mo_corners h_mo_cornerX h_mo_cornerY h_mo_density h_mo_longest h_mo_shift h_mo_pull h_mo_hasUnderlay h_mo_pointX h_mo_pointY h_mo_crossing h_mo_kind h_mo_byX h_mo_byY h_mo_fieldOf h_mo_isSewn h_mo_isTouched hbg _ (lv_sub hl [1, 2, 3, 4, 5, 6, 0] rfl) kx
      unfold f_X7_touches_L33 at hf
      refine lv_iload hx hb dX7_touches_33 (lv_at hl 4 rfl) ?_
      refine lv_aload_n hx hb dX7_touches_35 rfl (lv_at hl 0 rfl) ?_
      refine zget hx hb inlX7 rfl 19 rfl zk_t4_132 hts hown hK hH hk_mo h_mo rfl dX7_touches_36 ?_
      obtain ⟨k27, hf⟩ := zck_some hf
      refine lz_icmp_ge (tgt := 168) hx hb k27 dX7_touches_39 (by decide) (fun c28 => ?_) (fun c28 => ?_)
      · replace hf := (if_pos c28).symm.trans hf
        cases hf
        cases hnx
        exact kx _ _ _ hH h_mo h_mo_colour h_mo_layer h_mo_isColumn h_mo_corners h_mo_cornerX h_mo_cornerY h_mo_density h_mo_longest h_mo_shift h_mo_pull h_mo_hasUnderlay h_mo_pointX h_mo_pointY h_mo_crossing h_mo_kind h_mo_byX h_mo_byY h_mo_fieldOf h_mo_isSewn h_mo_isTouched hbg _ (lv_sub hl [0] rfl)
      · replace hf := (if_neg c28).symm.trans hf
        refine lv_aload_n hx hb dX7_touches_42 rfl (lv_at hl 0 rfl) ?_
        refine zget hx hb inlX7 rfl 20 rfl zk_t4_133 hts hown hK hH hk_mo h_mo rfl dX7_touches_43 ?_
        refine lv_iload hx hb dX7_touches_46 (lv_at hl 4 rfl) ?_
        obtain ⟨k29, hf⟩ := zck_some hf
        refine ziald hx hb hK hH hk_mo_kind 0 h_mo_kind rfl k29 rfl dX7_touches_48 ?_
        obtain ⟨k30, hf⟩ := zck_some hf
        refine lz_if_ne (tgt := 142) hx hb k30 dX7_touches_49 (by decide) (fun c31 => ?_) (fun c31 => ?_)
        · replace hf := (if_neg c31).symm.trans hf
          exact JL33_142 mo_isTouched x2 x3 x4 _ _ _ hH h_mo h_mo_colour h_mo_layer h_mo_isColumn h_mo_corners h_mo_cornerX h_mo_cornerY h_mo_density h_mo_longest h_mo_shift h_mo_pull h_mo_hasUnderlay h_mo_pointX h_mo_pointY h_mo_crossing h_mo_kind h_mo_byX h_mo_byY h_mo_fieldOf h_mo_isSewn h_mo_isTouched hbg _ (lv_sub hl [0, 1, 2, 3, 4] rfl) hf
        · replace hf := (if_pos c31).symm.trans hf
          refine lv_aload_n hx hb dX7_touches_52 rfl (lv_at hl 0 rfl) ?_
          refine zget hx hb inlX7 rfl 23 rfl zk_t4_136 hts hown hK hH hk_mo h_mo rfl dX7_touches_53 ?_
          refine lv_iload hx hb dX7_touches_56 (lv_at hl 4 rfl) ?_
          obtain ⟨k32, hf⟩ := zck_some hf
          refine ziald hx hb hK hH hk_mo_fieldOf 0 h_mo_fieldOf rfl k32 rfl dX7_touches_58 ?_
          refine lv_iload_n hx hb dX7_touches_59 rfl (lv_at hl 1 rfl) ?_
          obtain ⟨k33, hf⟩ := zck_some hf
          refine lz_icmp_ne (tgt := 142) hx hb k33 dX7_touches_60 (by decide) (fun c34 => ?_) (fun c34 => ?_)
          · replace hf := (if_neg c34).symm.trans hf
            exact JL33_142 mo_isTouched x2 x3 x4 _ _ _ hH h_mo h_mo_colour h_mo_layer h_mo_isColumn h_mo_corners h_mo_cornerX h_mo_cornerY h_mo_density h_mo_longest h_mo_shift h_mo_pull h_mo_hasUnderlay h_mo_pointX h_mo_pointY h_mo_crossing h_mo_kind h_mo_byX h_mo_byY h_mo_fieldOf h_mo_isSewn h_mo_isTouched hbg _ (lv_sub hl [0, 1, 2, 3, 4] rfl) hf
          · replace hf := (if_pos c34).symm.trans hf
            refine lv_aload_n hx hb dX7_touches_63 rfl (lv_at hl 0 rfl) ?_
            refine zget hx hb inlX7 rfl 21 rfl zk_t4_134 hts hown hK hH hk_mo h_mo rfl dX7_touches_64 ?_
            refine lv_iload hx hb dX7_touches_67 (lv_at hl 4 rfl) ?_
            obtain ⟨k35, hf⟩ := zck_some hf
            refine ziald hx hb hK hH hk_mo_byX 0 h_mo_byX rfl k35 rfl dX7_touches_69 ?_
            obtain ⟨r36, k37, hf⟩ := zb1_some hf
            refine zcSi (As := [.int (zI (mo_byX x4))]) (rest := []) hx hb hml hown hts hl.1 hK hH hA (c_X7_size hI hN   k37) zk_t5_59 zk_t5_60 zk_t1_6 zk_t5_61 hd_X7_size rfl ⟨rfl, rfl, Nat.le_of_ble_eq_true rfl, Nat.le_of_ble_eq_true rfl⟩ ⟨Nat.zero_le _, Nat.zero_le _⟩ rfl (Nat.le_of_ble_eq_true rfl) dX7_touches_70 (fun q39 σ38 Hσ38 lσ38 hp hH => ?_)
            obtain ⟨hr1, hs1⟩ := hp; subst hr1; rw [hs1] at hH
            refine lv_aload_n hx hb dX7_touches_73 rfl (lv_at hl 0 rfl) ?_
            refine zget hx hb inlX7 rfl 22 rfl zk_t4_135 hts hown hK hH hk_mo h_mo rfl dX7_touches_74 ?_
            refine lv_iload hx hb dX7_touches_77 (lv_at hl 4 rfl) ?_
            obtain ⟨k40, hf⟩ := zck_some hf
            refine ziald hx hb hK hH hk_mo_byY 0 h_mo_byY rfl k40 rfl dX7_touches_79 ?_
            obtain ⟨r41, k42, hf⟩ := zb1_some hf
            refine zcSi (As := [.int (zI (mo_byY x4))]) (rest := [.int (zI r36)]) hx hb hml hown hts hl.1 hK hH hA (c_X7_size hI hN   k42) zk_t5_59 zk_t5_60 zk_t1_6 zk_t5_61 hd_X7_size rfl ⟨rfl, rfl, Nat.le_of_ble_eq_true rfl, Nat.le_of_ble_eq_true rfl⟩ ⟨Nat.zero_le _, Nat.zero_le _⟩ rfl (Nat.le_of_ble_eq_true rfl) dX7_touches_80 (fun q44 σ43 Hσ43 lσ43 hp hH => ?_)
            obtain ⟨hr1, hs1⟩ := hp; subst hr1; rw [hs1] at hH
            obtain ⟨r45, k46, hf⟩ := zb1_some hf
            refine zcSi (As := [.int (zI r36), .int (zI r41)]) (rest := []) hx hb hml hown hts hl.1 hK hH hA (c_X7_greater hI hN   k46) zk_t5_62 zk_t5_63 zk_t1_6 zk_t5_64 hd_X7_greater rfl ⟨rfl, rfl, Nat.le_of_ble_eq_true rfl, Nat.le_of_ble_eq_true rfl⟩ ⟨Nat.zero_le _, Nat.zero_le _⟩ rfl (Nat.le_of_ble_eq_true rfl) dX7_touches_83 (fun q48 σ47 Hσ47 lσ47 hp hH => ?_)
            obtain ⟨hr1, hs1⟩ := hp; subst hr1; rw [hs1] at hH
            refine lv_istore (lv' := [(5, .int (zI r45)), (0, .ref (ad 19)), (1, .int (zI x1)), (2, .int (zI x2)), (3, .int (zI x3)), (4, .int (zI x4))]) hx hb dX7_touches_86 hl (by decide) rfl (fun ls hl => ?_)
            refine lv_iconst (v := zI 0) hx hb dX7_touches_88 (by decide +kernel) ?_
            refine lv_istore (lv' := [(6, .int (zI 0)), (5, .int (zI r45)), (0, .ref (ad 19)), (1, .int (zI x1)), (2, .int (zI x2)), (3, .int (zI x3)), (4, .int (zI x4))]) hx hb dX7_touches_89 hl (by decide) rfl (fun ls hl => ?_)
            obtain ⟨w50, w51, k49, hf⟩ := zb2_some hf
            refine L91 mo_pointX mo_pointY mo_points mo_crossing mo_crossings mo_isKnown mo_commands mo_kind mo_byX mo_byY mo_fieldOf mo_needleX mo_needleY mo_isSewn mo_rowY x1 x2 x3 x4 r45 zFU 0 mo_isTouched w50 w51 k49 _ _ _ hH h_mo h_mo_colour h_mo_layer h_mo_isColumn h_mo_corners h_mo_cornerX h_mo_cornerY h_mo_density h_mo_longest h_mo_shift h_mo_pull h_mo_hasUnderlay h_mo_pointX h_mo_pointY h_mo_crossing h_mo_kind h_mo_byX h_mo_byY h_mo_fieldOf h_mo_isSewn h_mo_isTouched hbg _ (lv_sub hl [2, 3, 4, 5, 6, 1, 0] rfl) (fun σ52 Hσ52 lσ52 hH h_mo h_mo_colour h_mo_layer h_mo_isColumn h_mo_corners h_mo_cornerX h_mo_cornerY h_mo_density h_mo_longest h_mo_shift h_mo_pull h_mo_hasUnderlay h_mo_pointX h_mo_pointY h_mo_crossing h_mo_kind h_mo_byX h_mo_byY h_mo_fieldOf h_mo_isSewn h_mo_isTouched hbg ls hl => ?_)
            exact JL33_142 w51 x2 x3 x4 _ _ _ hH h_mo h_mo_colour h_mo_layer h_mo_isColumn h_mo_corners h_mo_cornerX h_mo_cornerY h_mo_density h_mo_longest h_mo_shift h_mo_pull h_mo_hasUnderlay h_mo_pointX h_mo_pointY h_mo_crossing h_mo_kind h_mo_byX h_mo_byY h_mo_fieldOf h_mo_isSewn h_mo_isTouched hbg _ (lv_sub hl [0, 1, 2, 3, 4] rfl) hf
  have L6 : ∀ (mo_pointX : Int → Int) (mo_pointY : Int → Int) (mo_points : Int) (mo_crossing : Int → Int) (mo_crossings : Int) (mo_isKnown : Int) (mo_commands : Int) (mo_kind : Int → Int) (mo_byX : Int → Int) (mo_byY : Int → Int) (mo_fieldOf : Int → Int) (mo_needleX : Int) (mo_needleY : Int) (mo_isSewn : Int → Int) (mo_rowY : Int) (x1 : Int)  (n : Nat) (x2 : Int) (mo_isTouched : Int → Int) (x2' : Int) (mo_isTouched' : Int → Int), zlp (fun z => f_X7_touches_L6 mo_fields mo_colour mo_layer mo_isColumn mo_corners mo_cornerX mo_cornerY mo_density mo_longest mo_shift mo_pull mo_hasUnderlay mo_bound mo_pointX mo_pointY mo_points mo_crossing mo_crossings mo_isKnown mo_commands mo_kind mo_byX mo_byY mo_fieldOf mo_needleX mo_needleY mo_isSewn mo_rowY x1 z.1 z.2) n (x2, mo_isTouched) = some (x2', mo_isTouched') → ∀ (σ : Nat → va_E) (H : Heap) (locs : List Loc) (hH : zH D ad N (zFr ad N s.heap.size) s.heap σ H locs) (h_mo : σ 19 = oC_mo ad mo_fields mo_bound mo_points mo_crossings mo_isKnown mo_commands mo_needleX mo_needleY mo_hasFile mo_format mo_length mo_heads mo_late mo_ran mo_program mo_thrown mo_rowY mo_stitches) (h_mo_colour : σ 20 = .inl (cI, 8, .inl (zA mo_colour))) (h_mo_layer : σ 21 = .inl (cI, 8, .inl (zA mo_layer))) (h_mo_isColumn : σ 22 = .inl (cZ, 8, .inl (zA mo_isColumn))) (h_mo_corners : σ 23 = .inl (cI, 8, .inl (zA mo_corners))) (h_mo_cornerX : σ 24 = .inl (cI, 64, .inl (zA mo_cornerX))) (h_mo_cornerY : σ 25 = .inl (cI, 64, .inl (zA mo_cornerY))) (h_mo_density : σ 26 = .inl (cI, 8, .inl (zA mo_density))) (h_mo_longest : σ 27 = .inl (cI, 8, .inl (zA mo_longest))) (h_mo_shift : σ 28 = .inl (cI, 8, .inl (zA mo_shift))) (h_mo_pull : σ 29 = .inl (cI, 8, .inl (zA mo_pull))) (h_mo_hasUnderlay : σ 30 = .inl (cZ, 8, .inl (zA mo_hasUnderlay))) (h_mo_pointX : σ 31 = .inl (cI, 4096, .inl (zA mo_pointX))) (h_mo_pointY : σ 32 = .inl (cI, 4096, .inl (zA mo_pointY))) (h_mo_crossing : σ 33 = .inl (cI, 8, .inl (zA mo_crossing))) (h_mo_kind : σ 34 = .inl (cI, 20000, .inl (zA mo_kind))) (h_mo_byX : σ 35 = .inl (cI, 20000, .inl (zA mo_byX))) (h_mo_byY : σ 36 = .inl (cI, 20000, .inl (zA mo_byY))) (h_mo_fieldOf : σ 37 = .inl (cI, 20000, .inl (zA mo_fieldOf))) (h_mo_isSewn : σ 38 = .inl (cZ, 8, .inl (zA mo_isSewn))) (h_mo_isTouched : σ 39 = .inl (cZ, 1024, .inl (zA mo_isTouched))) (hbg : ∀ i : Nat, i ≠ 19 → i ≠ 31 → i ≠ 32 → i ≠ 33 → i ≠ 34 → i ≠ 35 → i ≠ 36 → i ≠ 37 → i ≠ 38 → i ≠ 39 → σ i = σ0 i) (ls : Array Slot) (hl : lv_has ls 7 [(0, .ref (ad 19)), (1, .int (zI x1)), (2, .int (zI x2))]), (∀ (σ : Nat → va_E) (H : Heap) (locs : List Loc) (hH : zH D ad N (zFr ad N s.heap.size) s.heap σ H locs) (h_mo : σ 19 = oC_mo ad mo_fields mo_bound mo_points mo_crossings mo_isKnown mo_commands mo_needleX mo_needleY mo_hasFile mo_format mo_length mo_heads mo_late mo_ran mo_program mo_thrown mo_rowY mo_stitches) (h_mo_colour : σ 20 = .inl (cI, 8, .inl (zA mo_colour))) (h_mo_layer : σ 21 = .inl (cI, 8, .inl (zA mo_layer))) (h_mo_isColumn : σ 22 = .inl (cZ, 8, .inl (zA mo_isColumn))) (h_mo_corners : σ 23 = .inl (cI, 8, .inl (zA mo_corners))) (h_mo_cornerX : σ 24 = .inl (cI, 64, .inl (zA mo_cornerX))) (h_mo_cornerY : σ 25 = .inl (cI, 64, .inl (zA mo_cornerY))) (h_mo_density : σ 26 = .inl (cI, 8, .inl (zA mo_density))) (h_mo_longest : σ 27 = .inl (cI, 8, .inl (zA mo_longest))) (h_mo_shift : σ 28 = .inl (cI, 8, .inl (zA mo_shift))) (h_mo_pull : σ 29 = .inl (cI, 8, .inl (zA mo_pull))) (h_mo_hasUnderlay : σ 30 = .inl (cZ, 8, .inl (zA mo_hasUnderlay))) (h_mo_pointX : σ 31 = .inl (cI, 4096, .inl (zA mo_pointX))) (h_mo_pointY : σ 32 = .inl (cI, 4096, .inl (zA mo_pointY))) (h_mo_crossing : σ 33 = .inl (cI, 8, .inl (zA mo_crossing))) (h_mo_kind : σ 34 = .inl (cI, 20000, .inl (zA mo_kind))) (h_mo_byX : σ 35 = .inl (cI, 20000, .inl (zA mo_byX))) (h_mo_byY : σ 36 = .inl (cI, 20000, .inl (zA mo_byY))) (h_mo_fieldOf : σ 37 = .inl (cI, 20000, .inl (zA mo_fieldOf))) (h_mo_isSewn : σ 38 = .inl (cZ, 8, .inl (zA mo_isSewn))) (h_mo_isTouched : σ 39 = .inl (cZ, 1024, .inl (zA (mo_isTouched')))) (hbg : ∀ i : Nat, i ≠ 19 → i ≠ 31 → i ≠ 32 → i ≠ 33 → i ≠ 34 → i ≠ 35 → i ≠ 36 → i ≠ 37 → i ≠ 38 → i ≠ 39 → σ i = σ0 i) (ls : Array Slot) (hl : lv_has ls 7 [(0, .ref (ad 19)), (1, .int (zI x1))]), W p l e rmX7_touches s m args below meth c H locs 0 0 Q (F0 m 26 ls [])) → W p l e rmX7_touches s m args below meth c H locs 0 0 Q (F0 m 6 ls []) := by
    intro mo_pointX mo_pointY mo_points mo_crossing mo_crossings mo_isKnown mo_commands mo_kind mo_byX mo_byY mo_fieldOf mo_needleX mo_needleY mo_isSewn mo_rowY x1 n
    induction n with
    | zero => intro x2 mo_isTouched x2' mo_isTouched' hz; exact (zlp_0 hz).elim
    | succ n ih =>
      intro x2 mo_isTouched x2' mo_isTouched' hz σ H locs hH h_mo h_mo_colour h_mo_layer h_mo_isColumn h_mo_corners h_mo_cornerX h_mo_cornerY h_mo_density h_mo_longest h_mo_shift h_mo_pull h_mo_hasUnderlay h_mo_pointX h_mo_pointY h_mo_crossing h_mo_kind h_mo_byX h_mo_byY h_mo_fieldOf h_mo_isSewn h_mo_isTouched hbg ls hl kx
      obtain ⟨nx, hf, hnx⟩ := zlp_some hz
      have hf : f_X7_touches_L6 mo_fields mo_colour mo_layer mo_isColumn mo_corners mo_cornerX mo_cornerY mo_density mo_longest mo_shift mo_pull mo_hasUnderlay mo_bound mo_pointX mo_pointY mo_points mo_crossing mo_crossings mo_isKnown mo_commands mo_kind mo_byX mo_byY mo_fieldOf mo_needleX mo_needleY mo_isSewn mo_rowY x1 x2 mo_isTouched = some nx := hf
      unfold f_X7_touches_L6 at hf
      refine lv_iload_n hx hb dX7_touches_6 rfl (lv_at hl 2 rfl) ?_
      refine lv_sipush (v := zI 1024) hx hb dX7_touches_7 (by decide +kernel) ?_
      obtain ⟨k53, hf⟩ := zck_some hf
      refine lz_icmp_ge (tgt := 26) hx hb ⟨k53, by decide⟩ dX7_touches_10 (by decide) (fun c54 => ?_) (fun c54 => ?_)
      · replace hf := (if_pos c54).symm.trans hf
        cases hf
        cases hnx
        exact kx _ _ _ hH h_mo h_mo_colour h_mo_layer h_mo_isColumn h_mo_corners h_mo_cornerX h_mo_cornerY h_mo_density h_mo_longest h_mo_shift h_mo_pull h_mo_hasUnderlay h_mo_pointX h_mo_pointY h_mo_crossing h_mo_kind h_mo_byX h_mo_byY h_mo_fieldOf h_mo_isSewn h_mo_isTouched hbg _ (lv_sub hl [0, 1] rfl)
      · replace hf := (if_neg c54).symm.trans hf
        refine lv_aload_n hx hb dX7_touches_13 rfl (lv_at hl 0 rfl) ?_
        refine zget hx hb inlX7 rfl 27 rfl zk_t4_140 hts hown hK hH hk_mo h_mo rfl dX7_touches_14 ?_
        refine lv_iload_n hx hb dX7_touches_17 rfl (lv_at hl 2 rfl) ?_
        refine lv_iconst (v := zI 0) hx hb dX7_touches_18 (by decide +kernel) ?_
        obtain ⟨k55, hf⟩ := zck_some hf
        obtain ⟨a57, ea57, hf⟩ := zlt_some hf
        refine zzast hx hb hK hH hk_mo_isTouched 1 h_mo_isTouched rfl k55 (Or.inl rfl) rfl dX7_touches_19 (fun σ56 Hσ56 lσ56 h_mo_isTouched hn hH => ?_)
        rw [← ea57] at h_mo_isTouched
        have h_mo := (hn 19 (by decide)).trans h_mo
        have h_mo_colour := (hn 20 (by decide)).trans h_mo_colour
        have h_mo_layer := (hn 21 (by decide)).trans h_mo_layer
        have h_mo_isColumn := (hn 22 (by decide)).trans h_mo_isColumn
        have h_mo_corners := (hn 23 (by decide)).trans h_mo_corners
        have h_mo_cornerX := (hn 24 (by decide)).trans h_mo_cornerX
        have h_mo_cornerY := (hn 25 (by decide)).trans h_mo_cornerY
        have h_mo_density := (hn 26 (by decide)).trans h_mo_density
        have h_mo_longest := (hn 27 (by decide)).trans h_mo_longest
        have h_mo_shift := (hn 28 (by decide)).trans h_mo_shift
        have h_mo_pull := (hn 29 (by decide)).trans h_mo_pull
        have h_mo_hasUnderlay := (hn 30 (by decide)).trans h_mo_hasUnderlay
        have h_mo_pointX := (hn 31 (by decide)).trans h_mo_pointX
        have h_mo_pointY := (hn 32 (by decide)).trans h_mo_pointY
        have h_mo_crossing := (hn 33 (by decide)).trans h_mo_crossing
        have h_mo_kind := (hn 34 (by decide)).trans h_mo_kind
        have h_mo_byX := (hn 35 (by decide)).trans h_mo_byX
        have h_mo_byY := (hn 36 (by decide)).trans h_mo_byY
        have h_mo_fieldOf := (hn 37 (by decide)).trans h_mo_fieldOf
        have h_mo_isSewn := (hn 38 (by decide)).trans h_mo_isSewn
        have hbg : ∀ i : Nat, i ≠ 19 → i ≠ 31 → i ≠ 32 → i ≠ 33 → i ≠ 34 → i ≠ 35 → i ≠ 36 → i ≠ 37 → i ≠ 38 → i ≠ 39 → σ56 i = σ0 i := fun i a0 a1 a2 a3 a4 a5 a6 a7 a8 a9 => (hn i a9).trans (hbg i a0 a1 a2 a3 a4 a5 a6 a7 a8 a9)
        refine lz_iinc (lv' := [(2, .int (zI (x2 + 1))), (0, .ref (ad 19)), (1, .int (zI x1))]) hx hb dX7_touches_20 hl (j := 2) rfl (by decide) rfl (fun ls hl => ?_)
        refine lv_goto (tgt := 6) hx hb dX7_touches_23 (by decide) ?_
        cases hf
        exact ih (x2 + 1) a57 _ _ hnx _ _ _ hH h_mo h_mo_colour h_mo_layer h_mo_isColumn h_mo_corners h_mo_cornerX h_mo_cornerY h_mo_density h_mo_longest h_mo_shift h_mo_pull h_mo_hasUnderlay h_mo_pointX h_mo_pointY h_mo_crossing h_mo_kind h_mo_byX h_mo_byY h_mo_fieldOf h_mo_isSewn h_mo_isTouched hbg _ (lv_sub hl [1, 2, 0] rfl) kx
  unfold f_X7_touches at hf
  refine lv_aload_n hx hb dX7_touches_0 rfl (lv_at hl 0 rfl) ?_
  obtain ⟨a58, a59, u60, a61, u62, u63, u64, a65, a66, a67, a68, u69, u70, a71, u72, k73, hf⟩ := zb15_some hf
  refine zcVv (C := RX7) (As := []) (rest := []) hx hb hml hown hts hl.1 hK hH hA (c_X7_reckons hI hN  h_mo h_mo_colour h_mo_layer h_mo_isColumn h_mo_corners h_mo_cornerX h_mo_cornerY h_mo_density h_mo_longest h_mo_shift h_mo_pull h_mo_hasUnderlay h_mo_pointX h_mo_pointY h_mo_crossing h_mo_kind h_mo_byX h_mo_byY h_mo_fieldOf h_mo_isSewn k73) zk_t5_43 zk_t5_45 zk_s3_0 zk_t1_6 zk_t5_46 hd_X7_reckons rfl ⟨rfl, rfl, Nat.le_of_ble_eq_true rfl, Nat.le_of_ble_eq_true rfl⟩ ⟨Nat.zero_le _, Nat.zero_le _⟩ hk_mo h_mo rfl rfl rfl (Nat.le_of_ble_eq_true rfl) dX7_touches_1 (fun σ74 Hσ74 lσ74 hp hH => ?_)
  obtain ⟨h_mo, h_mo_pointX, h_mo_pointY, h_mo_crossing, h_mo_kind, h_mo_byX, h_mo_byY, h_mo_fieldOf, h_mo_isSewn, hn⟩ := hp
  have h_mo_colour := (hn 20 (by decide) (by decide) (by decide) (by decide) (by decide) (by decide) (by decide) (by decide) (by decide)).trans h_mo_colour
  have h_mo_layer := (hn 21 (by decide) (by decide) (by decide) (by decide) (by decide) (by decide) (by decide) (by decide) (by decide)).trans h_mo_layer
  have h_mo_isColumn := (hn 22 (by decide) (by decide) (by decide) (by decide) (by decide) (by decide) (by decide) (by decide) (by decide)).trans h_mo_isColumn
  have h_mo_corners := (hn 23 (by decide) (by decide) (by decide) (by decide) (by decide) (by decide) (by decide) (by decide) (by decide)).trans h_mo_corners
  have h_mo_cornerX := (hn 24 (by decide) (by decide) (by decide) (by decide) (by decide) (by decide) (by decide) (by decide) (by decide)).trans h_mo_cornerX
  have h_mo_cornerY := (hn 25 (by decide) (by decide) (by decide) (by decide) (by decide) (by decide) (by decide) (by decide) (by decide)).trans h_mo_cornerY
  have h_mo_density := (hn 26 (by decide) (by decide) (by decide) (by decide) (by decide) (by decide) (by decide) (by decide) (by decide)).trans h_mo_density
  have h_mo_longest := (hn 27 (by decide) (by decide) (by decide) (by decide) (by decide) (by decide) (by decide) (by decide) (by decide)).trans h_mo_longest
  have h_mo_shift := (hn 28 (by decide) (by decide) (by decide) (by decide) (by decide) (by decide) (by decide) (by decide) (by decide)).trans h_mo_shift
  have h_mo_pull := (hn 29 (by decide) (by decide) (by decide) (by decide) (by decide) (by decide) (by decide) (by decide) (by decide)).trans h_mo_pull
  have h_mo_hasUnderlay := (hn 30 (by decide) (by decide) (by decide) (by decide) (by decide) (by decide) (by decide) (by decide) (by decide)).trans h_mo_hasUnderlay
  have h_mo_isTouched := (hn 39 (by decide) (by decide) (by decide) (by decide) (by decide) (by decide) (by decide) (by decide) (by decide)).trans h_mo_isTouched
  have hbg : ∀ i : Nat, i ≠ 19 → i ≠ 31 → i ≠ 32 → i ≠ 33 → i ≠ 34 → i ≠ 35 → i ≠ 36 → i ≠ 37 → i ≠ 38 → i ≠ 39 → σ74 i = σ0 i := fun i a0 a1 a2 a3 a4 a5 a6 a7 a8 a9 => (hn i a0 a1 a2 a3 a4 a5 a6 a7 a8).trans (hbg i a0 a1 a2 a3 a4 a5 a6 a7 a8 a9)
  refine lv_iconst (v := zI 0) hx hb dX7_touches_4 (by decide +kernel) ?_
  refine lv_istore_n (lv' := [(2, .int (zI 0)), (0, .ref (ad 19)), (1, .int (zI p1))]) hx hb dX7_touches_5 rfl hl (by decide) rfl (fun ls hl => ?_)
  obtain ⟨w76, w77, k75, hf⟩ := zb2_some hf
  refine L6 a58 a59 u60 a61 u62 u63 u64 a65 a66 a67 a68 u69 u70 a71 u72 p1 zFU 0 mo_isTouched w76 w77 k75 _ _ _ hH h_mo h_mo_colour h_mo_layer h_mo_isColumn h_mo_corners h_mo_cornerX h_mo_cornerY h_mo_density h_mo_longest h_mo_shift h_mo_pull h_mo_hasUnderlay h_mo_pointX h_mo_pointY h_mo_crossing h_mo_kind h_mo_byX h_mo_byY h_mo_fieldOf h_mo_isSewn h_mo_isTouched hbg _ (lv_sub hl [1, 2, 0] rfl) (fun σ78 Hσ78 lσ78 hH h_mo h_mo_colour h_mo_layer h_mo_isColumn h_mo_corners h_mo_cornerX h_mo_cornerY h_mo_density h_mo_longest h_mo_shift h_mo_pull h_mo_hasUnderlay h_mo_pointX h_mo_pointY h_mo_crossing h_mo_kind h_mo_byX h_mo_byY h_mo_fieldOf h_mo_isSewn h_mo_isTouched hbg ls hl => ?_)
  refine lv_iconst (v := zI 0) hx hb dX7_touches_26 (by decide +kernel) ?_
  refine lv_istore_n (lv' := [(2, .int (zI 0)), (0, .ref (ad 19)), (1, .int (zI p1))]) hx hb dX7_touches_27 rfl hl (by decide) rfl (fun ls hl => ?_)
  refine lv_iconst (v := zI 0) hx hb dX7_touches_28 (by decide +kernel) ?_
  refine lv_istore_n (lv' := [(3, .int (zI 0)), (2, .int (zI 0)), (0, .ref (ad 19)), (1, .int (zI p1))]) hx hb dX7_touches_29 rfl hl (by decide) rfl (fun ls hl => ?_)
  refine lv_iconst (v := zI 0) hx hb dX7_touches_30 (by decide +kernel) ?_
  refine lv_istore (lv' := [(4, .int (zI 0)), (3, .int (zI 0)), (2, .int (zI 0)), (0, .ref (ad 19)), (1, .int (zI p1))]) hx hb dX7_touches_31 hl (by decide) rfl (fun ls hl => ?_)
  obtain ⟨w80, w81, w82, w83, k79, hf⟩ := zb4_some hf
  refine L33 a58 a59 u60 a61 u62 u63 u64 a65 a66 a67 a68 u69 u70 a71 u72 p1 zFU 0 0 0 w77 w80 w81 w82 w83 k79 _ _ _ hH h_mo h_mo_colour h_mo_layer h_mo_isColumn h_mo_corners h_mo_cornerX h_mo_cornerY h_mo_density h_mo_longest h_mo_shift h_mo_pull h_mo_hasUnderlay h_mo_pointX h_mo_pointY h_mo_crossing h_mo_kind h_mo_byX h_mo_byY h_mo_fieldOf h_mo_isSewn h_mo_isTouched hbg _ (lv_sub hl [3, 4, 2, 1, 0] rfl) (fun σ84 Hσ84 lσ84 hH h_mo h_mo_colour h_mo_layer h_mo_isColumn h_mo_corners h_mo_cornerX h_mo_cornerY h_mo_density h_mo_longest h_mo_shift h_mo_pull h_mo_hasUnderlay h_mo_pointX h_mo_pointY h_mo_crossing h_mo_kind h_mo_byX h_mo_byY h_mo_fieldOf h_mo_isSewn h_mo_isTouched hbg ls hl => ?_)
  refine lv_iconst (v := zI 0) hx hb dX7_touches_168 (by decide +kernel) ?_
  refine lv_istore (lv' := [(4, .int (zI 0)), (0, .ref (ad 19))]) hx hb dX7_touches_169 hl (by decide) rfl (fun ls hl => ?_)
  refine lv_iconst (v := zI 0) hx hb dX7_touches_171 (by decide +kernel) ?_
  refine lv_istore (lv' := [(5, .int (zI 0)), (4, .int (zI 0)), (0, .ref (ad 19))]) hx hb dX7_touches_172 hl (by decide) rfl (fun ls hl => ?_)
  obtain ⟨w86, w87, k85, hf⟩ := zb2_some hf
  refine L174 a58 a59 u60 a61 u62 u63 u64 a65 a66 a67 a68 u69 u70 a71 w83 u72 zFU 0 0 w86 w87 k85 _ _ _ hH h_mo h_mo_colour h_mo_layer h_mo_isColumn h_mo_corners h_mo_cornerX h_mo_cornerY h_mo_density h_mo_longest h_mo_shift h_mo_pull h_mo_hasUnderlay h_mo_pointX h_mo_pointY h_mo_crossing h_mo_kind h_mo_byX h_mo_byY h_mo_fieldOf h_mo_isSewn h_mo_isTouched hbg _ (lv_sub hl [2, 1, 0] rfl) (fun σ88 Hσ88 lσ88 hH h_mo h_mo_colour h_mo_layer h_mo_isColumn h_mo_corners h_mo_cornerX h_mo_cornerY h_mo_density h_mo_longest h_mo_shift h_mo_pull h_mo_hasUnderlay h_mo_pointX h_mo_pointY h_mo_crossing h_mo_kind h_mo_byX h_mo_byY h_mo_fieldOf h_mo_isSewn h_mo_isTouched hbg ls hl => ?_)
  refine lv_iload hx hb dX7_touches_208 (lv_at hl 0 rfl) ?_
  cases hf
  exact zreti hx hb hr hlocks hQ hH ⟨rfl, h_mo, h_mo_pointX, h_mo_pointY, h_mo_crossing, h_mo_kind, h_mo_byX, h_mo_byY, h_mo_fieldOf, h_mo_isSewn, h_mo_isTouched, hbg⟩ dX7_touches_210
abbrev rmX7_isCovered : Room := { frames := 1, cells := 0, slots := 0, locals := 22 }
theorem hd_X7_isCovered : yX7_isCovered.cls = RX7 ∧ yX7_isCovered.cls ≠ "java/lang/invoke/MethodHandle" ∧ yX7_isCovered.cls ≠ "java/lang/invoke/VarHandle" ∧ (parseMethodDescriptor yX7_isCovered.desc).map (fun d => d.parameters.length) = some 3 := by decide +kernel
set_option maxHeartbeats 4000000 in
set_option maxRecDepth 100000 in
theorem c_X7_isCovered {l : Launch} {D : va_G} {cI cZ cF cL cD : ClassId} {ad : Nat → Nat} {N : Nat} (hI : ∀ i j, i < N → j < N → ad i = ad j → i = j) (hN : 46 ≤ N) {σ0 : Nat → va_E} {sz : Nat} {mo_fields : Int} {mo_density : Int → Int} {mo_bound : Int} {mo_points : Int} {mo_crossings : Int} {mo_isKnown : Int} {mo_commands : Int} {mo_needleX : Int} {mo_needleY : Int} {mo_isTouched : Int → Int} {mo_hasFile : Int} {mo_format : Int} {mo_length : Int} {mo_heads : Int} {mo_late : Int} {mo_ran : Int} {mo_program : Int} {mo_thrown : Int} {mo_rowY : Int} {mo_stitches : Int} {p1 : Int} {p2 : Int} {p3 : Int} {R0 : Int} (h_mo : σ0 19 = oC_mo ad mo_fields mo_bound mo_points mo_crossings mo_isKnown mo_commands mo_needleX mo_needleY mo_hasFile mo_format mo_length mo_heads mo_late mo_ran mo_program mo_thrown mo_rowY mo_stitches) (h_mo_density : σ0 26 = .inl (cI, 8, .inl (zA mo_density))) (h_mo_isTouched : σ0 39 = .inl (cZ, 1024, .inl (zA mo_isTouched))) (hf : f_X7_isCovered mo_density mo_isTouched p1 p2 p3 = some R0) :
    Met l yX7_isCovered (Cond.code yX7_isCovered cX7_isCovered 6 (some .boolean) :: wsL_law) rmX7_isCovered (zPre D ad N (zT cI cZ cF cL cD) σ0 sz [.ref (ad 19), .int (zI p1), .int (zI p2), .int (zI p3)]) (zQi D ad N sz (fun r σ' => r = zI R0 ∧ σ' = σ0)) 0 0 (zFr ad N sz) := by
  refine zMet hI (plainFor_of_name (by decide)) (Nat.le_of_ble_eq_true rfl) ⟨rfl, rfl⟩ ?_
  intro p e s m args below meth c Q hx hb hr hlocks hml hown hts hK hsz hQ hH hA ls hl
  subst hsz
  have hk_mo : 19 < N := by omega
  have hk_mo_density : 26 < N := by omega
  have hk_mo_isTouched : 39 < N := by omega
  have hl : lv_has ls 6 [(0, .ref (ad 19)), (1, .int (zI p1)), (2, .int (zI p2)), (3, .int (zI p3))] := hl
  have hbg : σ0 = σ0 := rfl
  have L15 : ∀ (x1 : Int) (x2 : Int) (x3 : Int)  (n : Nat) (x4 : Int) (x5 : Int) (x4' : Int) (x5' : Int), zlp (fun z => f_X7_isCovered_L15 mo_density mo_isTouched x1 x2 x3 z.1 z.2) n (x4, x5) = some (x4', x5') → ∀ (σ : Nat → va_E) (H : Heap) (locs : List Loc) (hH : zH D ad N (zFr ad N s.heap.size) s.heap σ H locs) (h_mo : σ 19 = oC_mo ad mo_fields mo_bound mo_points mo_crossings mo_isKnown mo_commands mo_needleX mo_needleY mo_hasFile mo_format mo_length mo_heads mo_late mo_ran mo_program mo_thrown mo_rowY mo_stitches) (h_mo_density : σ 26 = .inl (cI, 8, .inl (zA mo_density))) (h_mo_isTouched : σ 39 = .inl (cZ, 1024, .inl (zA mo_isTouched))) (hbg : σ = σ0) (ls : Array Slot) (hl : lv_has ls 6 [(0, .ref (ad 19)), (1, .int (zI x1)), (2, .int (zI x2)), (3, .int (zI x3)), (4, .int (zI x4)), (5, .int (zI x5))]), (∀ (σ : Nat → va_E) (H : Heap) (locs : List Loc) (hH : zH D ad N (zFr ad N s.heap.size) s.heap σ H locs) (h_mo : σ 19 = oC_mo ad mo_fields mo_bound mo_points mo_crossings mo_isKnown mo_commands mo_needleX mo_needleY mo_hasFile mo_format mo_length mo_heads mo_late mo_ran mo_program mo_thrown mo_rowY mo_stitches) (h_mo_density : σ 26 = .inl (cI, 8, .inl (zA mo_density))) (h_mo_isTouched : σ 39 = .inl (cZ, 1024, .inl (zA mo_isTouched))) (hbg : σ = σ0) (ls : Array Slot) (hl : lv_has ls 6 [(4, .int (zI (x4')))]), W p l e rmX7_isCovered s m args below meth c H locs 0 0 Q (F0 m 72 ls [])) → W p l e rmX7_isCovered s m args below meth c H locs 0 0 Q (F0 m 15 ls []) := by
    intro x1 x2 x3 n
    induction n with
    | zero => intro x4 x5 x4' x5' hz; exact (zlp_0 hz).elim
    | succ n ih =>
      intro x4 x5 x4' x5' hz σ H locs hH h_mo h_mo_density h_mo_isTouched hbg ls hl kx
      obtain ⟨nx, hf, hnx⟩ := zlp_some hz
      have hf : f_X7_isCovered_L15 mo_density mo_isTouched x1 x2 x3 x4 x5 = some nx := hf
      have JL15_59 : ∀ (x5 : Int) (σ : Nat → va_E) (H : Heap) (locs : List Loc) (hH : zH D ad N (zFr ad N s.heap.size) s.heap σ H locs) (h_mo : σ 19 = oC_mo ad mo_fields mo_bound mo_points mo_crossings mo_isKnown mo_commands mo_needleX mo_needleY mo_hasFile mo_format mo_length mo_heads mo_late mo_ran mo_program mo_thrown mo_rowY mo_stitches) (h_mo_density : σ 26 = .inl (cI, 8, .inl (zA mo_density))) (h_mo_isTouched : σ 39 = .inl (cZ, 1024, .inl (zA mo_isTouched))) (hbg : σ = σ0) (ls : Array Slot) (hl : lv_has ls 6 [(0, .ref (ad 19)), (1, .int (zI x1)), (2, .int (zI x2)), (3, .int (zI x3)), (5, .int (zI x5))]), f_X7_isCovered_L15_59 mo_density mo_isTouched x1 x2 x3 x5 = some nx → W p l e rmX7_isCovered s m args below meth c H locs 0 0 Q (F0 m 59 ls []) := by
        intro x5 σ H locs hH h_mo h_mo_density h_mo_isTouched hbg ls hl hf
        unfold f_X7_isCovered_L15_59 at hf
        refine lv_iconst (v := zI 1) hx hb dX7_isCovered_59 (by decide +kernel) ?_
        refine lv_goto (tgt := 64) hx hb dX7_isCovered_60 (by decide) ?_
        refine lv_istore (lv' := [(4, .int (zI 1)), (0, .ref (ad 19)), (1, .int (zI x1)), (2, .int (zI x2)), (3, .int (zI x3)), (5, .int (zI x5))]) hx hb dX7_isCovered_64 hl (by decide) rfl (fun ls hl => ?_)
        refine lz_iinc (lv' := [(5, .int (zI (x5 + 1))), (4, .int (zI 1)), (0, .ref (ad 19)), (1, .int (zI x1)), (2, .int (zI x2)), (3, .int (zI x3))]) hx hb dX7_isCovered_66 hl (j := 5) rfl (by decide) rfl (fun ls hl => ?_)
        refine lv_goto (tgt := 15) hx hb dX7_isCovered_69 (by decide) ?_
        cases hf
        exact ih 1 (x5 + 1) _ _ hnx _ _ _ hH h_mo h_mo_density h_mo_isTouched hbg _ (lv_sub hl [2, 3, 4, 5, 1, 0] rfl) kx
      unfold f_X7_isCovered_L15 at hf
      refine lv_iload hx hb dX7_isCovered_15 (lv_at hl 5 rfl) ?_
      refine lv_iload_n hx hb dX7_isCovered_17 rfl (lv_at hl 3 rfl) ?_
      refine lv_aload_n hx hb dX7_isCovered_18 rfl (lv_at hl 0 rfl) ?_
      refine zget hx hb inlX7 rfl 7 rfl zk_t4_120 hts hown hK hH hk_mo h_mo rfl dX7_isCovered_19 ?_
      refine lv_iload_n hx hb dX7_isCovered_22 rfl (lv_at hl 1 rfl) ?_
      obtain ⟨k1, hf⟩ := zck_some hf
      refine ziald hx hb hK hH hk_mo_density 0 h_mo_density rfl k1 rfl dX7_isCovered_23 ?_
      refine lz_iadd hx hb dX7_isCovered_24 ?_
      obtain ⟨k2, hf⟩ := zck_some hf
      refine lz_icmp_ge (tgt := 72) hx hb k2 dX7_isCovered_25 (by decide) (fun c3 => ?_) (fun c3 => ?_)
      · replace hf := (if_pos c3).symm.trans hf
        cases hf
        cases hnx
        exact kx _ _ _ hH h_mo h_mo_density h_mo_isTouched hbg _ (lv_sub hl [4] rfl)
      · replace hf := (if_neg c3).symm.trans hf
        refine lv_iload hx hb dX7_isCovered_28 (lv_at hl 4 rfl) ?_
        obtain ⟨k4, hf⟩ := zck_some hf
        refine lz_if_ne (tgt := 59) hx hb k4 dX7_isCovered_30 (by decide) (fun c5 => ?_) (fun c5 => ?_)
        · replace hf := (if_neg c5).symm.trans hf
          exact JL15_59 x5 _ _ _ hH h_mo h_mo_density h_mo_isTouched hbg _ (lv_sub hl [0, 1, 2, 3, 5] rfl) hf
        · replace hf := (if_pos c5).symm.trans hf
          refine lv_iload hx hb dX7_isCovered_33 (lv_at hl 5 rfl) ?_
          refine lv_iconst (v := zI 0) hx hb dX7_isCovered_35 (by decide +kernel) ?_
          refine lv_bipush (v := zI 31) hx hb dX7_isCovered_36 (by decide +kernel) ?_
          obtain ⟨r6, k7, hf⟩ := zb1_some hf
          refine zcSi (As := [.int (zI x5), .int (zI 0), .int (zI 31)]) (rest := []) hx hb hml hown hts hl.1 hK hH hA (c_X7_in hI hN   k7) zk_t5_8 zk_t5_9 zk_t1_6 zk_t5_10 hd_X7_in rfl ⟨rfl, rfl, Nat.le_of_ble_eq_true rfl, Nat.le_of_ble_eq_true rfl⟩ ⟨Nat.zero_le _, Nat.zero_le _⟩ rfl (Nat.le_of_ble_eq_true rfl) dX7_isCovered_38 (fun q9 σ8 Hσ8 lσ8 hp hH => ?_)
          obtain ⟨hr1, hs1⟩ := hp; subst hr1; rw [hs1] at hH
          obtain ⟨k10, hf⟩ := zck_some hf
          refine lz_if_eq (tgt := 63) hx hb k10 dX7_isCovered_41 (by decide) (fun c11 => ?_) (fun c11 => ?_)
          · replace hf := (if_pos c11).symm.trans hf
            refine lv_iconst (v := zI 0) hx hb dX7_isCovered_63 (by decide +kernel) ?_
            refine lv_istore (lv' := [(4, .int (zI 0)), (0, .ref (ad 19)), (1, .int (zI x1)), (2, .int (zI x2)), (3, .int (zI x3)), (5, .int (zI x5))]) hx hb dX7_isCovered_64 hl (by decide) rfl (fun ls hl => ?_)
            refine lz_iinc (lv' := [(5, .int (zI (x5 + 1))), (4, .int (zI 0)), (0, .ref (ad 19)), (1, .int (zI x1)), (2, .int (zI x2)), (3, .int (zI x3))]) hx hb dX7_isCovered_66 hl (j := 5) rfl (by decide) rfl (fun ls hl => ?_)
            refine lv_goto (tgt := 15) hx hb dX7_isCovered_69 (by decide) ?_
            cases hf
            exact ih 0 (x5 + 1) _ _ hnx _ _ _ hH h_mo h_mo_density h_mo_isTouched hbg _ (lv_sub hl [2, 3, 4, 5, 1, 0] rfl) kx
          · replace hf := (if_neg c11).symm.trans hf
            refine lv_aload_n hx hb dX7_isCovered_44 rfl (lv_at hl 0 rfl) ?_
            refine zget hx hb inlX7 rfl 27 rfl zk_t4_140 hts hown hK hH hk_mo h_mo rfl dX7_isCovered_45 ?_
            refine lv_bipush (v := zI 32) hx hb dX7_isCovered_48 (by decide +kernel) ?_
            refine lv_iload hx hb dX7_isCovered_50 (lv_at hl 5 rfl) ?_
            refine lz_imul hx hb dX7_isCovered_52 ?_
            refine lv_iload_n hx hb dX7_isCovered_53 rfl (lv_at hl 2 rfl) ?_
            refine lz_iadd hx hb dX7_isCovered_54 ?_
            obtain ⟨k12, hf⟩ := zck_some hf
            refine zzald hx hb hK hH hk_mo_isTouched 1 h_mo_isTouched rfl k12 rfl dX7_isCovered_55 ?_
            obtain ⟨k13, hf⟩ := zck_some hf
            refine lz_if_eq (tgt := 63) hx hb k13 dX7_isCovered_56 (by decide) (fun c14 => ?_) (fun c14 => ?_)
            · replace hf := (if_pos c14).symm.trans hf
              refine lv_iconst (v := zI 0) hx hb dX7_isCovered_63 (by decide +kernel) ?_
              refine lv_istore (lv' := [(4, .int (zI 0)), (0, .ref (ad 19)), (1, .int (zI x1)), (2, .int (zI x2)), (3, .int (zI x3)), (5, .int (zI x5))]) hx hb dX7_isCovered_64 hl (by decide) rfl (fun ls hl => ?_)
              refine lz_iinc (lv' := [(5, .int (zI (x5 + 1))), (4, .int (zI 0)), (0, .ref (ad 19)), (1, .int (zI x1)), (2, .int (zI x2)), (3, .int (zI x3))]) hx hb dX7_isCovered_66 hl (j := 5) rfl (by decide) rfl (fun ls hl => ?_)
              refine lv_goto (tgt := 15) hx hb dX7_isCovered_69 (by decide) ?_
              cases hf
              exact ih 0 (x5 + 1) _ _ hnx _ _ _ hH h_mo h_mo_density h_mo_isTouched hbg _ (lv_sub hl [2, 3, 4, 5, 1, 0] rfl) kx
            · replace hf := (if_neg c14).symm.trans hf
              exact JL15_59 x5 _ _ _ hH h_mo h_mo_density h_mo_isTouched hbg _ (lv_sub hl [0, 1, 2, 3, 5] rfl) hf
  unfold f_X7_isCovered at hf
  refine lv_iconst (v := zI 0) hx hb dX7_isCovered_0 (by decide +kernel) ?_
  refine lv_istore (lv' := [(4, .int (zI 0)), (0, .ref (ad 19)), (1, .int (zI p1)), (2, .int (zI p2)), (3, .int (zI p3))]) hx hb dX7_isCovered_1 hl (by decide) rfl (fun ls hl => ?_)
  refine lv_iload_n hx hb dX7_isCovered_3 rfl (lv_at hl 4 rfl) ?_
  refine lv_aload_n hx hb dX7_isCovered_4 rfl (lv_at hl 1 rfl) ?_
  refine zget hx hb inlX7 rfl 7 rfl zk_t4_120 hts hown hK hH hk_mo h_mo rfl dX7_isCovered_5 ?_
  refine lv_iload_n hx hb dX7_isCovered_8 rfl (lv_at hl 2 rfl) ?_
  obtain ⟨k15, hf⟩ := zck_some hf
  refine ziald hx hb hK hH hk_mo_density 0 h_mo_density rfl k15 rfl dX7_isCovered_9 ?_
  refine lz_isub hx hb dX7_isCovered_10 ?_
  refine lv_iconst (v := zI 1) hx hb dX7_isCovered_11 (by decide +kernel) ?_
  refine lz_iadd hx hb dX7_isCovered_12 ?_
  obtain ⟨v16, ev16, hf⟩ := zlt_some hf
  refine lz_nm ev16 ?_
  refine lv_istore (lv' := [(5, .int (zI v16)), (4, .int (zI 0)), (0, .ref (ad 19)), (1, .int (zI p1)), (2, .int (zI p2)), (3, .int (zI p3))]) hx hb dX7_isCovered_13 hl (by decide) rfl (fun ls hl => ?_)
  obtain ⟨w18, w19, k17, hf⟩ := zb2_some hf
  refine L15 p1 p2 p3 zFU 0 v16 w18 w19 k17 _ _ _ hH h_mo h_mo_density h_mo_isTouched hbg _ (lv_sub hl [2, 3, 4, 5, 1, 0] rfl) (fun σ20 Hσ20 lσ20 hH h_mo h_mo_density h_mo_isTouched hbg ls hl => ?_)
  refine lv_iload hx hb dX7_isCovered_72 (lv_at hl 0 rfl) ?_
  obtain ⟨k21, hf⟩ := zck_some hf
  cases hf
  exact zretz hx hb hr hlocks hQ hH ⟨rfl, hbg⟩ (z_nar _ k21) dX7_isCovered_74
abbrev rmX7_covered : Room := { frames := 7, cells := 0, slots := 0, locals := 176 }
theorem hd_X7_covered : yX7_covered.cls = RX7 ∧ yX7_covered.cls ≠ "java/lang/invoke/MethodHandle" ∧ yX7_covered.cls ≠ "java/lang/invoke/VarHandle" ∧ (parseMethodDescriptor yX7_covered.desc).map (fun d => d.parameters.length) = some 1 := by decide +kernel
set_option maxHeartbeats 4000000 in
set_option maxRecDepth 100000 in
theorem c_X7_covered {l : Launch} {D : va_G} {cI cZ cF cL cD : ClassId} {ad : Nat → Nat} {N : Nat} (hI : ∀ i j, i < N → j < N → ad i = ad j → i = j) (hN : 46 ≤ N) {σ0 : Nat → va_E} {sz : Nat} {mo_fields : Int} {mo_colour : Int → Int} {mo_layer : Int → Int} {mo_isColumn : Int → Int} {mo_corners : Int → Int} {mo_cornerX : Int → Int} {mo_cornerY : Int → Int} {mo_density : Int → Int} {mo_longest : Int → Int} {mo_shift : Int → Int} {mo_pull : Int → Int} {mo_hasUnderlay : Int → Int} {mo_bound : Int} {mo_pointX : Int → Int} {mo_pointY : Int → Int} {mo_points : Int} {mo_crossing : Int → Int} {mo_crossings : Int} {mo_isKnown : Int} {mo_commands : Int} {mo_kind : Int → Int} {mo_byX : Int → Int} {mo_byY : Int → Int} {mo_fieldOf : Int → Int} {mo_needleX : Int} {mo_needleY : Int} {mo_isSewn : Int → Int} {mo_isTouched : Int → Int} {mo_hasFile : Int} {mo_format : Int} {mo_length : Int} {mo_heads : Int} {mo_late : Int} {mo_ran : Int} {mo_program : Int} {mo_thrown : Int} {mo_rowY : Int} {mo_stitches : Int} {p1 : Int} {R0 : UInt32} {R_mo_pointX : Int → Int} {R_mo_pointY : Int → Int} {R_mo_points : Int} {R_mo_crossing : Int → Int} {R_mo_crossings : Int} {R_mo_isKnown : Int} {R_mo_commands : Int} {R_mo_kind : Int → Int} {R_mo_byX : Int → Int} {R_mo_byY : Int → Int} {R_mo_fieldOf : Int → Int} {R_mo_needleX : Int} {R_mo_needleY : Int} {R_mo_isSewn : Int → Int} {R_mo_isTouched : Int → Int} {R_mo_thrown : Int} {R_mo_rowY : Int} (h_mo : σ0 19 = oC_mo ad mo_fields mo_bound mo_points mo_crossings mo_isKnown mo_commands mo_needleX mo_needleY mo_hasFile mo_format mo_length mo_heads mo_late mo_ran mo_program mo_thrown mo_rowY mo_stitches) (h_mo_colour : σ0 20 = .inl (cI, 8, .inl (zA mo_colour))) (h_mo_layer : σ0 21 = .inl (cI, 8, .inl (zA mo_layer))) (h_mo_isColumn : σ0 22 = .inl (cZ, 8, .inl (zA mo_isColumn))) (h_mo_corners : σ0 23 = .inl (cI, 8, .inl (zA mo_corners))) (h_mo_cornerX : σ0 24 = .inl (cI, 64, .inl (zA mo_cornerX))) (h_mo_cornerY : σ0 25 = .inl (cI, 64, .inl (zA mo_cornerY))) (h_mo_density : σ0 26 = .inl (cI, 8, .inl (zA mo_density))) (h_mo_longest : σ0 27 = .inl (cI, 8, .inl (zA mo_longest))) (h_mo_shift : σ0 28 = .inl (cI, 8, .inl (zA mo_shift))) (h_mo_pull : σ0 29 = .inl (cI, 8, .inl (zA mo_pull))) (h_mo_hasUnderlay : σ0 30 = .inl (cZ, 8, .inl (zA mo_hasUnderlay))) (h_mo_pointX : σ0 31 = .inl (cI, 4096, .inl (zA mo_pointX))) (h_mo_pointY : σ0 32 = .inl (cI, 4096, .inl (zA mo_pointY))) (h_mo_crossing : σ0 33 = .inl (cI, 8, .inl (zA mo_crossing))) (h_mo_kind : σ0 34 = .inl (cI, 20000, .inl (zA mo_kind))) (h_mo_byX : σ0 35 = .inl (cI, 20000, .inl (zA mo_byX))) (h_mo_byY : σ0 36 = .inl (cI, 20000, .inl (zA mo_byY))) (h_mo_fieldOf : σ0 37 = .inl (cI, 20000, .inl (zA mo_fieldOf))) (h_mo_isSewn : σ0 38 = .inl (cZ, 8, .inl (zA mo_isSewn))) (h_mo_isTouched : σ0 39 = .inl (cZ, 1024, .inl (zA mo_isTouched))) (hf : f_X7_covered mo_fields mo_colour mo_layer mo_isColumn mo_corners mo_cornerX mo_cornerY mo_density mo_longest mo_shift mo_pull mo_hasUnderlay mo_bound mo_pointX mo_pointY mo_points mo_crossing mo_crossings mo_isKnown mo_commands mo_kind mo_byX mo_byY mo_fieldOf mo_needleX mo_needleY mo_isSewn mo_isTouched mo_thrown mo_rowY p1 = some (R0, R_mo_pointX, R_mo_pointY, R_mo_points, R_mo_crossing, R_mo_crossings, R_mo_isKnown, R_mo_commands, R_mo_kind, R_mo_byX, R_mo_byY, R_mo_fieldOf, R_mo_needleX, R_mo_needleY, R_mo_isSewn, R_mo_isTouched, R_mo_thrown, R_mo_rowY)) :
    Met l yX7_covered (Cond.code yX7_covered cX7_covered 9 (some .float) :: wsL_law) rmX7_covered (zPre D ad N (zT cI cZ cF cL cD) σ0 sz [.ref (ad 19), .int (zI p1)]) (zQf D ad N sz (fun r σ' => r = R0 ∧ σ' 19 = oC_mo ad mo_fields mo_bound R_mo_points R_mo_crossings R_mo_isKnown R_mo_commands R_mo_needleX R_mo_needleY mo_hasFile mo_format mo_length mo_heads mo_late mo_ran mo_program R_mo_thrown R_mo_rowY mo_stitches ∧ σ' 31 = .inl (cI, 4096, .inl (zA R_mo_pointX)) ∧ σ' 32 = .inl (cI, 4096, .inl (zA R_mo_pointY)) ∧ σ' 33 = .inl (cI, 8, .inl (zA R_mo_crossing)) ∧ σ' 34 = .inl (cI, 20000, .inl (zA R_mo_kind)) ∧ σ' 35 = .inl (cI, 20000, .inl (zA R_mo_byX)) ∧ σ' 36 = .inl (cI, 20000, .inl (zA R_mo_byY)) ∧ σ' 37 = .inl (cI, 20000, .inl (zA R_mo_fieldOf)) ∧ σ' 38 = .inl (cZ, 8, .inl (zA R_mo_isSewn)) ∧ σ' 39 = .inl (cZ, 1024, .inl (zA R_mo_isTouched)) ∧ ∀ i : Nat, i ≠ 19 → i ≠ 31 → i ≠ 32 → i ≠ 33 → i ≠ 34 → i ≠ 35 → i ≠ 36 → i ≠ 37 → i ≠ 38 → i ≠ 39 → σ' i = σ0 i)) 0 0 (zFr ad N sz) := by
  refine zMet hI (plainFor_of_name (by decide)) (Nat.le_of_ble_eq_true rfl) ⟨rfl, rfl⟩ ?_
  intro p e s m args below meth c Q hx hb hr hlocks hml hown hts hK hsz hQ hH hA ls hl
  subst hsz
  have hk_mo : 19 < N := by omega
  have hk_mo_colour : 20 < N := by omega
  have hk_mo_layer : 21 < N := by omega
  have hk_mo_isColumn : 22 < N := by omega
  have hk_mo_corners : 23 < N := by omega
  have hk_mo_cornerX : 24 < N := by omega
  have hk_mo_cornerY : 25 < N := by omega
  have hk_mo_density : 26 < N := by omega
  have hk_mo_longest : 27 < N := by omega
  have hk_mo_shift : 28 < N := by omega
  have hk_mo_pull : 29 < N := by omega
  have hk_mo_hasUnderlay : 30 < N := by omega
  have hk_mo_pointX : 31 < N := by omega
  have hk_mo_pointY : 32 < N := by omega
  have hk_mo_crossing : 33 < N := by omega
  have hk_mo_kind : 34 < N := by omega
  have hk_mo_byX : 35 < N := by omega
  have hk_mo_byY : 36 < N := by omega
  have hk_mo_fieldOf : 37 < N := by omega
  have hk_mo_isSewn : 38 < N := by omega
  have hk_mo_isTouched : 39 < N := by omega
  have hl : lv_has ls 9 [(0, .ref (ad 19)), (1, .int (zI p1))] := hl
  have hbg : ∀ i : Nat, i ≠ 19 → i ≠ 31 → i ≠ 32 → i ≠ 33 → i ≠ 34 → i ≠ 35 → i ≠ 36 → i ≠ 37 → i ≠ 38 → i ≠ 39 → σ0 i = σ0 i := fun _ _ _ _ _ _ _ _ _ _ _ => rfl
  have L49 : ∀ (mo_pointX : Int → Int) (mo_pointY : Int → Int) (mo_points : Int) (mo_isKnown : Int) (mo_commands : Int) (mo_kind : Int → Int) (mo_byX : Int → Int) (mo_byY : Int → Int) (mo_fieldOf : Int → Int) (mo_needleX : Int) (mo_needleY : Int) (mo_isSewn : Int → Int) (mo_isTouched : Int → Int) (mo_thrown : Int) (mo_rowY : Int) (x1 : Int) (x2 : Int)  (n : Nat) (x3 : Int) (x4 : Int) (x5 : Int) (mo_crossing : Int → Int) (mo_crossings : Int) (x3' : Int) (x4' : Int) (x5' : Int) (mo_crossing' : Int → Int) (mo_crossings' : Int), zlp (fun z => f_X7_covered_L49 mo_fields mo_colour mo_layer mo_isColumn mo_corners mo_cornerX mo_cornerY mo_density mo_longest mo_shift mo_pull mo_hasUnderlay mo_bound mo_pointX mo_pointY mo_points mo_isKnown mo_commands mo_kind mo_byX mo_byY mo_fieldOf mo_needleX mo_needleY mo_isSewn mo_isTouched mo_thrown mo_rowY x1 x2 z.1 z.2.1 z.2.2.1 z.2.2.2.1 z.2.2.2.2) n (x3, x4, x5, mo_crossing, mo_crossings) = some (x3', x4', x5', mo_crossing', mo_crossings') → ∀ (σ : Nat → va_E) (H : Heap) (locs : List Loc) (hH : zH D ad N (zFr ad N s.heap.size) s.heap σ H locs) (h_mo : σ 19 = oC_mo ad mo_fields mo_bound mo_points mo_crossings mo_isKnown mo_commands mo_needleX mo_needleY mo_hasFile mo_format mo_length mo_heads mo_late mo_ran mo_program mo_thrown mo_rowY mo_stitches) (h_mo_colour : σ 20 = .inl (cI, 8, .inl (zA mo_colour))) (h_mo_layer : σ 21 = .inl (cI, 8, .inl (zA mo_layer))) (h_mo_isColumn : σ 22 = .inl (cZ, 8, .inl (zA mo_isColumn))) (h_mo_corners : σ 23 = .inl (cI, 8, .inl (zA mo_corners))) (h_mo_cornerX : σ 24 = .inl (cI, 64, .inl (zA mo_cornerX))) (h_mo_cornerY : σ 25 = .inl (cI, 64, .inl (zA mo_cornerY))) (h_mo_density : σ 26 = .inl (cI, 8, .inl (zA mo_density))) (h_mo_longest : σ 27 = .inl (cI, 8, .inl (zA mo_longest))) (h_mo_shift : σ 28 = .inl (cI, 8, .inl (zA mo_shift))) (h_mo_pull : σ 29 = .inl (cI, 8, .inl (zA mo_pull))) (h_mo_hasUnderlay : σ 30 = .inl (cZ, 8, .inl (zA mo_hasUnderlay))) (h_mo_pointX : σ 31 = .inl (cI, 4096, .inl (zA mo_pointX))) (h_mo_pointY : σ 32 = .inl (cI, 4096, .inl (zA mo_pointY))) (h_mo_crossing : σ 33 = .inl (cI, 8, .inl (zA mo_crossing))) (h_mo_kind : σ 34 = .inl (cI, 20000, .inl (zA mo_kind))) (h_mo_byX : σ 35 = .inl (cI, 20000, .inl (zA mo_byX))) (h_mo_byY : σ 36 = .inl (cI, 20000, .inl (zA mo_byY))) (h_mo_fieldOf : σ 37 = .inl (cI, 20000, .inl (zA mo_fieldOf))) (h_mo_isSewn : σ 38 = .inl (cZ, 8, .inl (zA mo_isSewn))) (h_mo_isTouched : σ 39 = .inl (cZ, 1024, .inl (zA mo_isTouched))) (hbg : ∀ i : Nat, i ≠ 19 → i ≠ 31 → i ≠ 32 → i ≠ 33 → i ≠ 34 → i ≠ 35 → i ≠ 36 → i ≠ 37 → i ≠ 38 → i ≠ 39 → σ i = σ0 i) (ls : Array Slot) (hl : lv_has ls 9 [(0, .ref (ad 19)), (1, .int (zI x1)), (2, .int (zI x2)), (3, .int (zI x3)), (4, .int (zI x4)), (5, .int (zI x5))]), (∀ (σ : Nat → va_E) (H : Heap) (locs : List Loc) (hH : zH D ad N (zFr ad N s.heap.size) s.heap σ H locs) (h_mo : σ 19 = oC_mo ad mo_fields mo_bound mo_points (mo_crossings') mo_isKnown mo_commands mo_needleX mo_needleY mo_hasFile mo_format mo_length mo_heads mo_late mo_ran mo_program mo_thrown mo_rowY mo_stitches) (h_mo_colour : σ 20 = .inl (cI, 8, .inl (zA mo_colour))) (h_mo_layer : σ 21 = .inl (cI, 8, .inl (zA mo_layer))) (h_mo_isColumn : σ 22 = .inl (cZ, 8, .inl (zA mo_isColumn))) (h_mo_corners : σ 23 = .inl (cI, 8, .inl (zA mo_corners))) (h_mo_cornerX : σ 24 = .inl (cI, 64, .inl (zA mo_cornerX))) (h_mo_cornerY : σ 25 = .inl (cI, 64, .inl (zA mo_cornerY))) (h_mo_density : σ 26 = .inl (cI, 8, .inl (zA mo_density))) (h_mo_longest : σ 27 = .inl (cI, 8, .inl (zA mo_longest))) (h_mo_shift : σ 28 = .inl (cI, 8, .inl (zA mo_shift))) (h_mo_pull : σ 29 = .inl (cI, 8, .inl (zA mo_pull))) (h_mo_hasUnderlay : σ 30 = .inl (cZ, 8, .inl (zA mo_hasUnderlay))) (h_mo_pointX : σ 31 = .inl (cI, 4096, .inl (zA mo_pointX))) (h_mo_pointY : σ 32 = .inl (cI, 4096, .inl (zA mo_pointY))) (h_mo_crossing : σ 33 = .inl (cI, 8, .inl (zA (mo_crossing')))) (h_mo_kind : σ 34 = .inl (cI, 20000, .inl (zA mo_kind))) (h_mo_byX : σ 35 = .inl (cI, 20000, .inl (zA mo_byX))) (h_mo_byY : σ 36 = .inl (cI, 20000, .inl (zA mo_byY))) (h_mo_fieldOf : σ 37 = .inl (cI, 20000, .inl (zA mo_fieldOf))) (h_mo_isSewn : σ 38 = .inl (cZ, 8, .inl (zA mo_isSewn))) (h_mo_isTouched : σ 39 = .inl (cZ, 1024, .inl (zA mo_isTouched))) (hbg : ∀ i : Nat, i ≠ 19 → i ≠ 31 → i ≠ 32 → i ≠ 33 → i ≠ 34 → i ≠ 35 → i ≠ 36 → i ≠ 37 → i ≠ 38 → i ≠ 39 → σ i = σ0 i) (ls : Array Slot) (hl : lv_has ls 9 [(3, .int (zI (x3'))), (4, .int (zI (x4')))]), W p l e rmX7_covered s m args below meth c H locs 0 0 Q (F0 m 190 ls [])) → W p l e rmX7_covered s m args below meth c H locs 0 0 Q (F0 m 49 ls []) := by
    intro mo_pointX mo_pointY mo_points mo_isKnown mo_commands mo_kind mo_byX mo_byY mo_fieldOf mo_needleX mo_needleY mo_isSewn mo_isTouched mo_thrown mo_rowY x1 x2 n
    induction n with
    | zero => intro x3 x4 x5 mo_crossing mo_crossings x3' x4' x5' mo_crossing' mo_crossings' hz; exact (zlp_0 hz).elim
    | succ n ih =>
      intro x3 x4 x5 mo_crossing mo_crossings x3' x4' x5' mo_crossing' mo_crossings' hz σ H locs hH h_mo h_mo_colour h_mo_layer h_mo_isColumn h_mo_corners h_mo_cornerX h_mo_cornerY h_mo_density h_mo_longest h_mo_shift h_mo_pull h_mo_hasUnderlay h_mo_pointX h_mo_pointY h_mo_crossing h_mo_kind h_mo_byX h_mo_byY h_mo_fieldOf h_mo_isSewn h_mo_isTouched hbg ls hl kx
      obtain ⟨nx, hf, hnx⟩ := zlp_some hz
      have hf : f_X7_covered_L49 mo_fields mo_colour mo_layer mo_isColumn mo_corners mo_cornerX mo_cornerY mo_density mo_longest mo_shift mo_pull mo_hasUnderlay mo_bound mo_pointX mo_pointY mo_points mo_isKnown mo_commands mo_kind mo_byX mo_byY mo_fieldOf mo_needleX mo_needleY mo_isSewn mo_isTouched mo_thrown mo_rowY x1 x2 x3 x4 x5 mo_crossing mo_crossings = some nx := hf
      have L66 : ∀ (mo_pointX : Int → Int) (mo_pointY : Int → Int) (mo_points : Int) (mo_crossing : Int → Int) (mo_crossings : Int) (mo_isKnown : Int) (mo_commands : Int) (mo_kind : Int → Int) (mo_byX : Int → Int) (mo_byY : Int → Int) (mo_fieldOf : Int → Int) (mo_needleX : Int) (mo_needleY : Int) (mo_isSewn : Int → Int) (mo_isTouched : Int → Int) (mo_thrown : Int) (mo_rowY : Int) (x1 : Int) (x2 : Int) (x5 : Int)  (n : Nat) (x3 : Int) (x4 : Int) (x6 : Int) (x3' : Int) (x4' : Int) (x6' : Int), zlp (fun z => f_X7_covered_L66 mo_fields mo_colour mo_layer mo_isColumn mo_corners mo_cornerX mo_cornerY mo_density mo_longest mo_shift mo_pull mo_hasUnderlay mo_bound mo_pointX mo_pointY mo_points mo_crossing mo_crossings mo_isKnown mo_commands mo_kind mo_byX mo_byY mo_fieldOf mo_needleX mo_needleY mo_isSewn mo_isTouched mo_thrown mo_rowY x1 x2 x5 z.1 z.2.1 z.2.2) n (x3, x4, x6) = some (x3', x4', x6') → ∀ (σ : Nat → va_E) (H : Heap) (locs : List Loc) (hH : zH D ad N (zFr ad N s.heap.size) s.heap σ H locs) (h_mo : σ 19 = oC_mo ad mo_fields mo_bound mo_points mo_crossings mo_isKnown mo_commands mo_needleX mo_needleY mo_hasFile mo_format mo_length mo_heads mo_late mo_ran mo_program mo_thrown mo_rowY mo_stitches) (h_mo_colour : σ 20 = .inl (cI, 8, .inl (zA mo_colour))) (h_mo_layer : σ 21 = .inl (cI, 8, .inl (zA mo_layer))) (h_mo_isColumn : σ 22 = .inl (cZ, 8, .inl (zA mo_isColumn))) (h_mo_corners : σ 23 = .inl (cI, 8, .inl (zA mo_corners))) (h_mo_cornerX : σ 24 = .inl (cI, 64, .inl (zA mo_cornerX))) (h_mo_cornerY : σ 25 = .inl (cI, 64, .inl (zA mo_cornerY))) (h_mo_density : σ 26 = .inl (cI, 8, .inl (zA mo_density))) (h_mo_longest : σ 27 = .inl (cI, 8, .inl (zA mo_longest))) (h_mo_shift : σ 28 = .inl (cI, 8, .inl (zA mo_shift))) (h_mo_pull : σ 29 = .inl (cI, 8, .inl (zA mo_pull))) (h_mo_hasUnderlay : σ 30 = .inl (cZ, 8, .inl (zA mo_hasUnderlay))) (h_mo_pointX : σ 31 = .inl (cI, 4096, .inl (zA mo_pointX))) (h_mo_pointY : σ 32 = .inl (cI, 4096, .inl (zA mo_pointY))) (h_mo_crossing : σ 33 = .inl (cI, 8, .inl (zA mo_crossing))) (h_mo_kind : σ 34 = .inl (cI, 20000, .inl (zA mo_kind))) (h_mo_byX : σ 35 = .inl (cI, 20000, .inl (zA mo_byX))) (h_mo_byY : σ 36 = .inl (cI, 20000, .inl (zA mo_byY))) (h_mo_fieldOf : σ 37 = .inl (cI, 20000, .inl (zA mo_fieldOf))) (h_mo_isSewn : σ 38 = .inl (cZ, 8, .inl (zA mo_isSewn))) (h_mo_isTouched : σ 39 = .inl (cZ, 1024, .inl (zA mo_isTouched))) (hbg : ∀ i : Nat, i ≠ 19 → i ≠ 31 → i ≠ 32 → i ≠ 33 → i ≠ 34 → i ≠ 35 → i ≠ 36 → i ≠ 37 → i ≠ 38 → i ≠ 39 → σ i = σ0 i) (ls : Array Slot) (hl : lv_has ls 9 [(0, .ref (ad 19)), (1, .int (zI x1)), (2, .int (zI x2)), (3, .int (zI x3)), (4, .int (zI x4)), (5, .int (zI x5)), (6, .int (zI x6))]), (∀ (σ : Nat → va_E) (H : Heap) (locs : List Loc) (hH : zH D ad N (zFr ad N s.heap.size) s.heap σ H locs) (h_mo : σ 19 = oC_mo ad mo_fields mo_bound mo_points mo_crossings mo_isKnown mo_commands mo_needleX mo_needleY mo_hasFile mo_format mo_length mo_heads mo_late mo_ran mo_program mo_thrown mo_rowY mo_stitches) (h_mo_colour : σ 20 = .inl (cI, 8, .inl (zA mo_colour))) (h_mo_layer : σ 21 = .inl (cI, 8, .inl (zA mo_layer))) (h_mo_isColumn : σ 22 = .inl (cZ, 8, .inl (zA mo_isColumn))) (h_mo_corners : σ 23 = .inl (cI, 8, .inl (zA mo_corners))) (h_mo_cornerX : σ 24 = .inl (cI, 64, .inl (zA mo_cornerX))) (h_mo_cornerY : σ 25 = .inl (cI, 64, .inl (zA mo_cornerY))) (h_mo_density : σ 26 = .inl (cI, 8, .inl (zA mo_density))) (h_mo_longest : σ 27 = .inl (cI, 8, .inl (zA mo_longest))) (h_mo_shift : σ 28 = .inl (cI, 8, .inl (zA mo_shift))) (h_mo_pull : σ 29 = .inl (cI, 8, .inl (zA mo_pull))) (h_mo_hasUnderlay : σ 30 = .inl (cZ, 8, .inl (zA mo_hasUnderlay))) (h_mo_pointX : σ 31 = .inl (cI, 4096, .inl (zA mo_pointX))) (h_mo_pointY : σ 32 = .inl (cI, 4096, .inl (zA mo_pointY))) (h_mo_crossing : σ 33 = .inl (cI, 8, .inl (zA mo_crossing))) (h_mo_kind : σ 34 = .inl (cI, 20000, .inl (zA mo_kind))) (h_mo_byX : σ 35 = .inl (cI, 20000, .inl (zA mo_byX))) (h_mo_byY : σ 36 = .inl (cI, 20000, .inl (zA mo_byY))) (h_mo_fieldOf : σ 37 = .inl (cI, 20000, .inl (zA mo_fieldOf))) (h_mo_isSewn : σ 38 = .inl (cZ, 8, .inl (zA mo_isSewn))) (h_mo_isTouched : σ 39 = .inl (cZ, 1024, .inl (zA mo_isTouched))) (hbg : ∀ i : Nat, i ≠ 19 → i ≠ 31 → i ≠ 32 → i ≠ 33 → i ≠ 34 → i ≠ 35 → i ≠ 36 → i ≠ 37 → i ≠ 38 → i ≠ 39 → σ i = σ0 i) (ls : Array Slot) (hl : lv_has ls 9 [(0, .ref (ad 19)), (1, .int (zI x1)), (2, .int (zI x2)), (3, .int (zI (x3'))), (4, .int (zI (x4'))), (5, .int (zI x5))]), W p l e rmX7_covered s m args below meth c H locs 0 0 Q (F0 m 184 ls [])) → W p l e rmX7_covered s m args below meth c H locs 0 0 Q (F0 m 66 ls []) := by
        intro mo_pointX mo_pointY mo_points mo_crossing mo_crossings mo_isKnown mo_commands mo_kind mo_byX mo_byY mo_fieldOf mo_needleX mo_needleY mo_isSewn mo_isTouched mo_thrown mo_rowY x1 x2 x5 n
        induction n with
        | zero => intro x3 x4 x6 x3' x4' x6' hz; exact (zlp_0 hz).elim
        | succ n ih =>
          intro x3 x4 x6 x3' x4' x6' hz σ H locs hH h_mo h_mo_colour h_mo_layer h_mo_isColumn h_mo_corners h_mo_cornerX h_mo_cornerY h_mo_density h_mo_longest h_mo_shift h_mo_pull h_mo_hasUnderlay h_mo_pointX h_mo_pointY h_mo_crossing h_mo_kind h_mo_byX h_mo_byY h_mo_fieldOf h_mo_isSewn h_mo_isTouched hbg ls hl kx
          obtain ⟨nx, hf, hnx⟩ := zlp_some hz
          have hf : f_X7_covered_L66 mo_fields mo_colour mo_layer mo_isColumn mo_corners mo_cornerX mo_cornerY mo_density mo_longest mo_shift mo_pull mo_hasUnderlay mo_bound mo_pointX mo_pointY mo_points mo_crossing mo_crossings mo_isKnown mo_commands mo_kind mo_byX mo_byY mo_fieldOf mo_needleX mo_needleY mo_isSewn mo_isTouched mo_thrown mo_rowY x1 x2 x5 x3 x4 x6 = some nx := hf
          have JL66_145 : ∀ (x4 : Int) (x6 : Int) (x7 : Int) (s0 : Int) (s1 : Int) (σ : Nat → va_E) (H : Heap) (locs : List Loc) (hH : zH D ad N (zFr ad N s.heap.size) s.heap σ H locs) (h_mo : σ 19 = oC_mo ad mo_fields mo_bound mo_points mo_crossings mo_isKnown mo_commands mo_needleX mo_needleY mo_hasFile mo_format mo_length mo_heads mo_late mo_ran mo_program mo_thrown mo_rowY mo_stitches) (h_mo_colour : σ 20 = .inl (cI, 8, .inl (zA mo_colour))) (h_mo_layer : σ 21 = .inl (cI, 8, .inl (zA mo_layer))) (h_mo_isColumn : σ 22 = .inl (cZ, 8, .inl (zA mo_isColumn))) (h_mo_corners : σ 23 = .inl (cI, 8, .inl (zA mo_corners))) (h_mo_cornerX : σ 24 = .inl (cI, 64, .inl (zA mo_cornerX))) (h_mo_cornerY : σ 25 = .inl (cI, 64, .inl (zA mo_cornerY))) (h_mo_density : σ 26 = .inl (cI, 8, .inl (zA mo_density))) (h_mo_longest : σ 27 = .inl (cI, 8, .inl (zA mo_longest))) (h_mo_shift : σ 28 = .inl (cI, 8, .inl (zA mo_shift))) (h_mo_pull : σ 29 = .inl (cI, 8, .inl (zA mo_pull))) (h_mo_hasUnderlay : σ 30 = .inl (cZ, 8, .inl (zA mo_hasUnderlay))) (h_mo_pointX : σ 31 = .inl (cI, 4096, .inl (zA mo_pointX))) (h_mo_pointY : σ 32 = .inl (cI, 4096, .inl (zA mo_pointY))) (h_mo_crossing : σ 33 = .inl (cI, 8, .inl (zA mo_crossing))) (h_mo_kind : σ 34 = .inl (cI, 20000, .inl (zA mo_kind))) (h_mo_byX : σ 35 = .inl (cI, 20000, .inl (zA mo_byX))) (h_mo_byY : σ 36 = .inl (cI, 20000, .inl (zA mo_byY))) (h_mo_fieldOf : σ 37 = .inl (cI, 20000, .inl (zA mo_fieldOf))) (h_mo_isSewn : σ 38 = .inl (cZ, 8, .inl (zA mo_isSewn))) (h_mo_isTouched : σ 39 = .inl (cZ, 1024, .inl (zA mo_isTouched))) (hbg : ∀ i : Nat, i ≠ 19 → i ≠ 31 → i ≠ 32 → i ≠ 33 → i ≠ 34 → i ≠ 35 → i ≠ 36 → i ≠ 37 → i ≠ 38 → i ≠ 39 → σ i = σ0 i) (ls : Array Slot) (hl : lv_has ls 9 [(0, .ref (ad 19)), (1, .int (zI x1)), (2, .int (zI x2)), (4, .int (zI x4)), (5, .int (zI x5)), (6, .int (zI x6)), (7, .int (zI x7))]), f_X7_covered_L66_145 mo_fields mo_colour mo_layer mo_isColumn mo_corners mo_cornerX mo_cornerY mo_density mo_longest mo_shift mo_pull mo_hasUnderlay mo_bound mo_pointX mo_pointY mo_points mo_crossing mo_crossings mo_isKnown mo_commands mo_kind mo_byX mo_byY mo_fieldOf mo_needleX mo_needleY mo_isSewn mo_isTouched mo_thrown mo_rowY x1 x2 x4 x5 x6 x7 s0 s1 = some nx → W p l e rmX7_covered s m args below meth c H locs 0 0 Q (F0 m 145 ls [.int (zI s1), .int (zI s0)]) := by
            intro x4 x6 x7 s0 s1 σ H locs hH h_mo h_mo_colour h_mo_layer h_mo_isColumn h_mo_corners h_mo_cornerX h_mo_cornerY h_mo_density h_mo_longest h_mo_shift h_mo_pull h_mo_hasUnderlay h_mo_pointX h_mo_pointY h_mo_crossing h_mo_kind h_mo_byX h_mo_byY h_mo_fieldOf h_mo_isSewn h_mo_isTouched hbg ls hl hf
            unfold f_X7_covered_L66_145 at hf
            refine lz_iadd hx hb dX7_covered_145 ?_
            obtain ⟨v1, ev1, hf⟩ := zlt_some hf
            refine lz_nm ev1 ?_
            refine lv_istore_n (lv' := [(3, .int (zI v1)), (0, .ref (ad 19)), (1, .int (zI x1)), (2, .int (zI x2)), (4, .int (zI x4)), (5, .int (zI x5)), (6, .int (zI x6)), (7, .int (zI x7))]) hx hb dX7_covered_146 rfl hl (by decide) rfl (fun ls hl => ?_)
            refine lv_iload hx hb dX7_covered_147 (lv_at hl 4 rfl) ?_
            refine lv_iload hx hb dX7_covered_149 (lv_at hl 7 rfl) ?_
            obtain ⟨k2, hf⟩ := zck_some hf
            refine lz_if_eq (tgt := 174) hx hb k2 dX7_covered_151 (by decide) (fun c3 => ?_) (fun c3 => ?_)
            · replace hf := (if_pos c3).symm.trans hf
              refine lv_iconst (v := zI 0) hx hb dX7_covered_174 (by decide +kernel) ?_
              refine lz_iadd hx hb dX7_covered_175 ?_
              obtain ⟨v4, ev4, hf⟩ := zlt_some hf
              refine lz_nm ev4 ?_
              refine lv_istore (lv' := [(4, .int (zI v4)), (3, .int (zI v1)), (0, .ref (ad 19)), (1, .int (zI x1)), (2, .int (zI x2)), (5, .int (zI x5)), (6, .int (zI x6)), (7, .int (zI x7))]) hx hb dX7_covered_176 hl (by decide) rfl (fun ls hl => ?_)
              refine lz_iinc (lv' := [(6, .int (zI (x6 + 1))), (4, .int (zI v4)), (3, .int (zI v1)), (0, .ref (ad 19)), (1, .int (zI x1)), (2, .int (zI x2)), (5, .int (zI x5)), (7, .int (zI x7))]) hx hb dX7_covered_178 hl (j := 6) rfl (by decide) rfl (fun ls hl => ?_)
              refine lv_goto (tgt := 66) hx hb dX7_covered_181 (by decide) ?_
              cases hf
              exact ih v1 v4 (x6 + 1) _ _ _ hnx _ _ _ hH h_mo h_mo_colour h_mo_layer h_mo_isColumn h_mo_corners h_mo_cornerX h_mo_cornerY h_mo_density h_mo_longest h_mo_shift h_mo_pull h_mo_hasUnderlay h_mo_pointX h_mo_pointY h_mo_crossing h_mo_kind h_mo_byX h_mo_byY h_mo_fieldOf h_mo_isSewn h_mo_isTouched hbg _ (lv_sub hl [3, 4, 5, 2, 1, 6, 0] rfl) kx
            · replace hf := (if_neg c3).symm.trans hf
              refine lv_iload_n hx hb dX7_covered_154 rfl (lv_at hl 3 rfl) ?_
              obtain ⟨k5, hf⟩ := zck_some hf
              refine lz_if_le (tgt := 174) hx hb k5 dX7_covered_155 (by decide) (fun c6 => ?_) (fun c6 => ?_)
              · replace hf := (if_pos c6).symm.trans hf
                refine lv_iconst (v := zI 0) hx hb dX7_covered_174 (by decide +kernel) ?_
                refine lz_iadd hx hb dX7_covered_175 ?_
                obtain ⟨v7, ev7, hf⟩ := zlt_some hf
                refine lz_nm ev7 ?_
                refine lv_istore (lv' := [(4, .int (zI v7)), (3, .int (zI v1)), (0, .ref (ad 19)), (1, .int (zI x1)), (2, .int (zI x2)), (5, .int (zI x5)), (6, .int (zI x6)), (7, .int (zI x7))]) hx hb dX7_covered_176 hl (by decide) rfl (fun ls hl => ?_)
                refine lz_iinc (lv' := [(6, .int (zI (x6 + 1))), (4, .int (zI v7)), (3, .int (zI v1)), (0, .ref (ad 19)), (1, .int (zI x1)), (2, .int (zI x2)), (5, .int (zI x5)), (7, .int (zI x7))]) hx hb dX7_covered_178 hl (j := 6) rfl (by decide) rfl (fun ls hl => ?_)
                refine lv_goto (tgt := 66) hx hb dX7_covered_181 (by decide) ?_
                cases hf
                exact ih v1 v7 (x6 + 1) _ _ _ hnx _ _ _ hH h_mo h_mo_colour h_mo_layer h_mo_isColumn h_mo_corners h_mo_cornerX h_mo_cornerY h_mo_density h_mo_longest h_mo_shift h_mo_pull h_mo_hasUnderlay h_mo_pointX h_mo_pointY h_mo_crossing h_mo_kind h_mo_byX h_mo_byY h_mo_fieldOf h_mo_isSewn h_mo_isTouched hbg _ (lv_sub hl [3, 4, 5, 2, 1, 6, 0] rfl) kx
              · replace hf := (if_neg c6).symm.trans hf
                refine lv_aload_n hx hb dX7_covered_158 rfl (lv_at hl 1 rfl) ?_
                refine lv_iload_n hx hb dX7_covered_159 rfl (lv_at hl 2 rfl) ?_
                refine lv_iload hx hb dX7_covered_160 (lv_at hl 6 rfl) ?_
                refine lv_iload hx hb dX7_covered_162 (lv_at hl 5 rfl) ?_
                obtain ⟨r8, k9, hf⟩ := zb1_some hf
                refine zcVi (C := RX7) (As := [.int (zI x1), .int (zI x6), .int (zI x5)]) (rest := [.int (zI x4)]) hx hb hml hown hts hl.1 hK hH hA (c_X7_isCovered hI hN  h_mo h_mo_density h_mo_isTouched k9) zk_t5_143 zk_t5_145 zk_s3_15 zk_t1_6 zk_t5_146 hd_X7_isCovered rfl ⟨rfl, rfl, Nat.le_of_ble_eq_true rfl, Nat.le_of_ble_eq_true rfl⟩ ⟨Nat.zero_le _, Nat.zero_le _⟩ hk_mo h_mo rfl rfl rfl (Nat.le_of_ble_eq_true rfl) dX7_covered_164 (fun q11 σ10 Hσ10 lσ10 hp hH => ?_)
                obtain ⟨hr1, hs1⟩ := hp; subst hr1; rw [hs1] at hH
                obtain ⟨k12, hf⟩ := zck_some hf
                refine lz_if_eq (tgt := 174) hx hb k12 dX7_covered_167 (by decide) (fun c13 => ?_) (fun c13 => ?_)
                · replace hf := (if_pos c13).symm.trans hf
                  refine lv_iconst (v := zI 0) hx hb dX7_covered_174 (by decide +kernel) ?_
                  refine lz_iadd hx hb dX7_covered_175 ?_
                  obtain ⟨v14, ev14, hf⟩ := zlt_some hf
                  refine lz_nm ev14 ?_
                  refine lv_istore (lv' := [(4, .int (zI v14)), (3, .int (zI v1)), (0, .ref (ad 19)), (1, .int (zI x1)), (2, .int (zI x2)), (5, .int (zI x5)), (6, .int (zI x6)), (7, .int (zI x7))]) hx hb dX7_covered_176 hl (by decide) rfl (fun ls hl => ?_)
                  refine lz_iinc (lv' := [(6, .int (zI (x6 + 1))), (4, .int (zI v14)), (3, .int (zI v1)), (0, .ref (ad 19)), (1, .int (zI x1)), (2, .int (zI x2)), (5, .int (zI x5)), (7, .int (zI x7))]) hx hb dX7_covered_178 hl (j := 6) rfl (by decide) rfl (fun ls hl => ?_)
                  refine lv_goto (tgt := 66) hx hb dX7_covered_181 (by decide) ?_
                  cases hf
                  exact ih v1 v14 (x6 + 1) _ _ _ hnx _ _ _ hH h_mo h_mo_colour h_mo_layer h_mo_isColumn h_mo_corners h_mo_cornerX h_mo_cornerY h_mo_density h_mo_longest h_mo_shift h_mo_pull h_mo_hasUnderlay h_mo_pointX h_mo_pointY h_mo_crossing h_mo_kind h_mo_byX h_mo_byY h_mo_fieldOf h_mo_isSewn h_mo_isTouched hbg _ (lv_sub hl [3, 4, 5, 2, 1, 6, 0] rfl) kx
                · replace hf := (if_neg c13).symm.trans hf
                  refine lv_iconst (v := zI 1) hx hb dX7_covered_170 (by decide +kernel) ?_
                  refine lv_goto (tgt := 175) hx hb dX7_covered_171 (by decide) ?_
                  refine lz_iadd hx hb dX7_covered_175 ?_
                  obtain ⟨v15, ev15, hf⟩ := zlt_some hf
                  refine lz_nm ev15 ?_
                  refine lv_istore (lv' := [(4, .int (zI v15)), (3, .int (zI v1)), (0, .ref (ad 19)), (1, .int (zI x1)), (2, .int (zI x2)), (5, .int (zI x5)), (6, .int (zI x6)), (7, .int (zI x7))]) hx hb dX7_covered_176 hl (by decide) rfl (fun ls hl => ?_)
                  refine lz_iinc (lv' := [(6, .int (zI (x6 + 1))), (4, .int (zI v15)), (3, .int (zI v1)), (0, .ref (ad 19)), (1, .int (zI x1)), (2, .int (zI x2)), (5, .int (zI x5)), (7, .int (zI x7))]) hx hb dX7_covered_178 hl (j := 6) rfl (by decide) rfl (fun ls hl => ?_)
                  refine lv_goto (tgt := 66) hx hb dX7_covered_181 (by decide) ?_
                  cases hf
                  exact ih v1 v15 (x6 + 1) _ _ _ hnx _ _ _ hH h_mo h_mo_colour h_mo_layer h_mo_isColumn h_mo_corners h_mo_cornerX h_mo_cornerY h_mo_density h_mo_longest h_mo_shift h_mo_pull h_mo_hasUnderlay h_mo_pointX h_mo_pointY h_mo_crossing h_mo_kind h_mo_byX h_mo_byY h_mo_fieldOf h_mo_isSewn h_mo_isTouched hbg _ (lv_sub hl [3, 4, 5, 2, 1, 6, 0] rfl) kx
          have L79 : ∀ (mo_pointX : Int → Int) (mo_pointY : Int → Int) (mo_points : Int) (mo_crossing : Int → Int) (mo_crossings : Int) (mo_isKnown : Int) (mo_commands : Int) (mo_kind : Int → Int) (mo_byX : Int → Int) (mo_byY : Int → Int) (mo_fieldOf : Int → Int) (mo_needleX : Int) (mo_needleY : Int) (mo_isSewn : Int → Int) (mo_isTouched : Int → Int) (mo_thrown : Int) (mo_rowY : Int) (x1 : Int) (x2 : Int) (x3 : Int) (x4 : Int) (x5 : Int) (x6 : Int)  (n : Nat) (x7 : Int) (x8 : Int) (x7' : Int) (x8' : Int), zlp (fun z => f_X7_covered_L79 mo_fields mo_colour mo_layer mo_isColumn mo_corners mo_cornerX mo_cornerY mo_density mo_longest mo_shift mo_pull mo_hasUnderlay mo_bound mo_pointX mo_pointY mo_points mo_crossing mo_crossings mo_isKnown mo_commands mo_kind mo_byX mo_byY mo_fieldOf mo_needleX mo_needleY mo_isSewn mo_isTouched mo_thrown mo_rowY x1 x2 x3 x4 x5 x6 z.1 z.2) n (x7, x8) = some (x7', x8') → ∀ (σ : Nat → va_E) (H : Heap) (locs : List Loc) (hH : zH D ad N (zFr ad N s.heap.size) s.heap σ H locs) (h_mo : σ 19 = oC_mo ad mo_fields mo_bound mo_points mo_crossings mo_isKnown mo_commands mo_needleX mo_needleY mo_hasFile mo_format mo_length mo_heads mo_late mo_ran mo_program mo_thrown mo_rowY mo_stitches) (h_mo_colour : σ 20 = .inl (cI, 8, .inl (zA mo_colour))) (h_mo_layer : σ 21 = .inl (cI, 8, .inl (zA mo_layer))) (h_mo_isColumn : σ 22 = .inl (cZ, 8, .inl (zA mo_isColumn))) (h_mo_corners : σ 23 = .inl (cI, 8, .inl (zA mo_corners))) (h_mo_cornerX : σ 24 = .inl (cI, 64, .inl (zA mo_cornerX))) (h_mo_cornerY : σ 25 = .inl (cI, 64, .inl (zA mo_cornerY))) (h_mo_density : σ 26 = .inl (cI, 8, .inl (zA mo_density))) (h_mo_longest : σ 27 = .inl (cI, 8, .inl (zA mo_longest))) (h_mo_shift : σ 28 = .inl (cI, 8, .inl (zA mo_shift))) (h_mo_pull : σ 29 = .inl (cI, 8, .inl (zA mo_pull))) (h_mo_hasUnderlay : σ 30 = .inl (cZ, 8, .inl (zA mo_hasUnderlay))) (h_mo_pointX : σ 31 = .inl (cI, 4096, .inl (zA mo_pointX))) (h_mo_pointY : σ 32 = .inl (cI, 4096, .inl (zA mo_pointY))) (h_mo_crossing : σ 33 = .inl (cI, 8, .inl (zA mo_crossing))) (h_mo_kind : σ 34 = .inl (cI, 20000, .inl (zA mo_kind))) (h_mo_byX : σ 35 = .inl (cI, 20000, .inl (zA mo_byX))) (h_mo_byY : σ 36 = .inl (cI, 20000, .inl (zA mo_byY))) (h_mo_fieldOf : σ 37 = .inl (cI, 20000, .inl (zA mo_fieldOf))) (h_mo_isSewn : σ 38 = .inl (cZ, 8, .inl (zA mo_isSewn))) (h_mo_isTouched : σ 39 = .inl (cZ, 1024, .inl (zA mo_isTouched))) (hbg : ∀ i : Nat, i ≠ 19 → i ≠ 31 → i ≠ 32 → i ≠ 33 → i ≠ 34 → i ≠ 35 → i ≠ 36 → i ≠ 37 → i ≠ 38 → i ≠ 39 → σ i = σ0 i) (ls : Array Slot) (hl : lv_has ls 9 [(0, .ref (ad 19)), (1, .int (zI x1)), (2, .int (zI x2)), (3, .int (zI x3)), (4, .int (zI x4)), (5, .int (zI x5)), (6, .int (zI x6)), (7, .int (zI x7)), (8, .int (zI x8))]), (∀ (σ : Nat → va_E) (H : Heap) (locs : List Loc) (hH : zH D ad N (zFr ad N s.heap.size) s.heap σ H locs) (h_mo : σ 19 = oC_mo ad mo_fields mo_bound mo_points mo_crossings mo_isKnown mo_commands mo_needleX mo_needleY mo_hasFile mo_format mo_length mo_heads mo_late mo_ran mo_program mo_thrown mo_rowY mo_stitches) (h_mo_colour : σ 20 = .inl (cI, 8, .inl (zA mo_colour))) (h_mo_layer : σ 21 = .inl (cI, 8, .inl (zA mo_layer))) (h_mo_isColumn : σ 22 = .inl (cZ, 8, .inl (zA mo_isColumn))) (h_mo_corners : σ 23 = .inl (cI, 8, .inl (zA mo_corners))) (h_mo_cornerX : σ 24 = .inl (cI, 64, .inl (zA mo_cornerX))) (h_mo_cornerY : σ 25 = .inl (cI, 64, .inl (zA mo_cornerY))) (h_mo_density : σ 26 = .inl (cI, 8, .inl (zA mo_density))) (h_mo_longest : σ 27 = .inl (cI, 8, .inl (zA mo_longest))) (h_mo_shift : σ 28 = .inl (cI, 8, .inl (zA mo_shift))) (h_mo_pull : σ 29 = .inl (cI, 8, .inl (zA mo_pull))) (h_mo_hasUnderlay : σ 30 = .inl (cZ, 8, .inl (zA mo_hasUnderlay))) (h_mo_pointX : σ 31 = .inl (cI, 4096, .inl (zA mo_pointX))) (h_mo_pointY : σ 32 = .inl (cI, 4096, .inl (zA mo_pointY))) (h_mo_crossing : σ 33 = .inl (cI, 8, .inl (zA mo_crossing))) (h_mo_kind : σ 34 = .inl (cI, 20000, .inl (zA mo_kind))) (h_mo_byX : σ 35 = .inl (cI, 20000, .inl (zA mo_byX))) (h_mo_byY : σ 36 = .inl (cI, 20000, .inl (zA mo_byY))) (h_mo_fieldOf : σ 37 = .inl (cI, 20000, .inl (zA mo_fieldOf))) (h_mo_isSewn : σ 38 = .inl (cZ, 8, .inl (zA mo_isSewn))) (h_mo_isTouched : σ 39 = .inl (cZ, 1024, .inl (zA mo_isTouched))) (hbg : ∀ i : Nat, i ≠ 19 → i ≠ 31 → i ≠ 32 → i ≠ 33 → i ≠ 34 → i ≠ 35 → i ≠ 36 → i ≠ 37 → i ≠ 38 → i ≠ 39 → σ i = σ0 i) (ls : Array Slot) (hl : lv_has ls 9 [(0, .ref (ad 19)), (1, .int (zI x1)), (2, .int (zI x2)), (3, .int (zI x3)), (4, .int (zI x4)), (5, .int (zI x5)), (6, .int (zI x6)), (7, .int (zI (x7')))]), W p l e rmX7_covered s m args below meth c H locs 0 0 Q (F0 m 134 ls [])) → W p l e rmX7_covered s m args below meth c H locs 0 0 Q (F0 m 79 ls []) := by
            intro mo_pointX mo_pointY mo_points mo_crossing mo_crossings mo_isKnown mo_commands mo_kind mo_byX mo_byY mo_fieldOf mo_needleX mo_needleY mo_isSewn mo_isTouched mo_thrown mo_rowY x1 x2 x3 x4 x5 x6 n
            induction n with
            | zero => intro x7 x8 x7' x8' hz; exact (zlp_0 hz).elim
            | succ n ih =>
              intro x7 x8 x7' x8' hz σ H locs hH h_mo h_mo_colour h_mo_layer h_mo_isColumn h_mo_corners h_mo_cornerX h_mo_cornerY h_mo_density h_mo_longest h_mo_shift h_mo_pull h_mo_hasUnderlay h_mo_pointX h_mo_pointY h_mo_crossing h_mo_kind h_mo_byX h_mo_byY h_mo_fieldOf h_mo_isSewn h_mo_isTouched hbg ls hl kx
              obtain ⟨nx, hf, hnx⟩ := zlp_some hz
              have hf : f_X7_covered_L79 mo_fields mo_colour mo_layer mo_isColumn mo_corners mo_cornerX mo_cornerY mo_density mo_longest mo_shift mo_pull mo_hasUnderlay mo_bound mo_pointX mo_pointY mo_points mo_crossing mo_crossings mo_isKnown mo_commands mo_kind mo_byX mo_byY mo_fieldOf mo_needleX mo_needleY mo_isSewn mo_isTouched mo_thrown mo_rowY x1 x2 x3 x4 x5 x6 x7 x8 = some nx := hf
              have JL79_121 : ∀ (x8 : Int) (σ : Nat → va_E) (H : Heap) (locs : List Loc) (hH : zH D ad N (zFr ad N s.heap.size) s.heap σ H locs) (h_mo : σ 19 = oC_mo ad mo_fields mo_bound mo_points mo_crossings mo_isKnown mo_commands mo_needleX mo_needleY mo_hasFile mo_format mo_length mo_heads mo_late mo_ran mo_program mo_thrown mo_rowY mo_stitches) (h_mo_colour : σ 20 = .inl (cI, 8, .inl (zA mo_colour))) (h_mo_layer : σ 21 = .inl (cI, 8, .inl (zA mo_layer))) (h_mo_isColumn : σ 22 = .inl (cZ, 8, .inl (zA mo_isColumn))) (h_mo_corners : σ 23 = .inl (cI, 8, .inl (zA mo_corners))) (h_mo_cornerX : σ 24 = .inl (cI, 64, .inl (zA mo_cornerX))) (h_mo_cornerY : σ 25 = .inl (cI, 64, .inl (zA mo_cornerY))) (h_mo_density : σ 26 = .inl (cI, 8, .inl (zA mo_density))) (h_mo_longest : σ 27 = .inl (cI, 8, .inl (zA mo_longest))) (h_mo_shift : σ 28 = .inl (cI, 8, .inl (zA mo_shift))) (h_mo_pull : σ 29 = .inl (cI, 8, .inl (zA mo_pull))) (h_mo_hasUnderlay : σ 30 = .inl (cZ, 8, .inl (zA mo_hasUnderlay))) (h_mo_pointX : σ 31 = .inl (cI, 4096, .inl (zA mo_pointX))) (h_mo_pointY : σ 32 = .inl (cI, 4096, .inl (zA mo_pointY))) (h_mo_crossing : σ 33 = .inl (cI, 8, .inl (zA mo_crossing))) (h_mo_kind : σ 34 = .inl (cI, 20000, .inl (zA mo_kind))) (h_mo_byX : σ 35 = .inl (cI, 20000, .inl (zA mo_byX))) (h_mo_byY : σ 36 = .inl (cI, 20000, .inl (zA mo_byY))) (h_mo_fieldOf : σ 37 = .inl (cI, 20000, .inl (zA mo_fieldOf))) (h_mo_isSewn : σ 38 = .inl (cZ, 8, .inl (zA mo_isSewn))) (h_mo_isTouched : σ 39 = .inl (cZ, 1024, .inl (zA mo_isTouched))) (hbg : ∀ i : Nat, i ≠ 19 → i ≠ 31 → i ≠ 32 → i ≠ 33 → i ≠ 34 → i ≠ 35 → i ≠ 36 → i ≠ 37 → i ≠ 38 → i ≠ 39 → σ i = σ0 i) (ls : Array Slot) (hl : lv_has ls 9 [(0, .ref (ad 19)), (1, .int (zI x1)), (2, .int (zI x2)), (3, .int (zI x3)), (4, .int (zI x4)), (5, .int (zI x5)), (6, .int (zI x6)), (8, .int (zI x8))]), f_X7_covered_L79_121 mo_fields mo_colour mo_layer mo_isColumn mo_corners mo_cornerX mo_cornerY mo_density mo_longest mo_shift mo_pull mo_hasUnderlay mo_bound mo_pointX mo_pointY mo_points mo_crossing mo_crossings mo_isKnown mo_commands mo_kind mo_byX mo_byY mo_fieldOf mo_needleX mo_needleY mo_isSewn mo_isTouched mo_thrown mo_rowY x1 x2 x3 x4 x5 x6 x8 = some nx → W p l e rmX7_covered s m args below meth c H locs 0 0 Q (F0 m 121 ls []) := by
                intro x8 σ H locs hH h_mo h_mo_colour h_mo_layer h_mo_isColumn h_mo_corners h_mo_cornerX h_mo_cornerY h_mo_density h_mo_longest h_mo_shift h_mo_pull h_mo_hasUnderlay h_mo_pointX h_mo_pointY h_mo_crossing h_mo_kind h_mo_byX h_mo_byY h_mo_fieldOf h_mo_isSewn h_mo_isTouched hbg ls hl hf
                unfold f_X7_covered_L79_121 at hf
                refine lv_iconst (v := zI 1) hx hb dX7_covered_121 (by decide +kernel) ?_
                refine lv_goto (tgt := 126) hx hb dX7_covered_122 (by decide) ?_
                refine lv_istore (lv' := [(7, .int (zI 1)), (0, .ref (ad 19)), (1, .int (zI x1)), (2, .int (zI x2)), (3, .int (zI x3)), (4, .int (zI x4)), (5, .int (zI x5)), (6, .int (zI x6)), (8, .int (zI x8))]) hx hb dX7_covered_126 hl (by decide) rfl (fun ls hl => ?_)
                refine lz_iinc (lv' := [(8, .int (zI (x8 + 2))), (7, .int (zI 1)), (0, .ref (ad 19)), (1, .int (zI x1)), (2, .int (zI x2)), (3, .int (zI x3)), (4, .int (zI x4)), (5, .int (zI x5)), (6, .int (zI x6))]) hx hb dX7_covered_128 hl (j := 8) rfl (by decide) rfl (fun ls hl => ?_)
                refine lv_goto (tgt := 79) hx hb dX7_covered_131 (by decide) ?_
                cases hf
                exact ih 1 (x8 + 2) _ _ hnx _ _ _ hH h_mo h_mo_colour h_mo_layer h_mo_isColumn h_mo_corners h_mo_cornerX h_mo_cornerY h_mo_density h_mo_longest h_mo_shift h_mo_pull h_mo_hasUnderlay h_mo_pointX h_mo_pointY h_mo_crossing h_mo_kind h_mo_byX h_mo_byY h_mo_fieldOf h_mo_isSewn h_mo_isTouched hbg _ (lv_sub hl [2, 3, 4, 5, 6, 7, 8, 1, 0] rfl) kx
              unfold f_X7_covered_L79 at hf
              refine lv_iload hx hb dX7_covered_79 (lv_at hl 8 rfl) ?_
              refine lv_iconst (v := zI 1) hx hb dX7_covered_81 (by decide +kernel) ?_
              refine lz_iadd hx hb dX7_covered_82 ?_
              refine lv_aload_n hx hb dX7_covered_83 rfl (lv_at hl 0 rfl) ?_
              refine zget hx hb inlX7 rfl 17 rfl zk_t4_130 hts hown hK hH hk_mo h_mo rfl dX7_covered_84 ?_
              obtain ⟨k16, hf⟩ := zck_some hf
              refine lz_icmp_ge (tgt := 134) hx hb k16 dX7_covered_87 (by decide) (fun c17 => ?_) (fun c17 => ?_)
              · replace hf := (if_pos c17).symm.trans hf
                cases hf
                cases hnx
                exact kx _ _ _ hH h_mo h_mo_colour h_mo_layer h_mo_isColumn h_mo_corners h_mo_cornerX h_mo_cornerY h_mo_density h_mo_longest h_mo_shift h_mo_pull h_mo_hasUnderlay h_mo_pointX h_mo_pointY h_mo_crossing h_mo_kind h_mo_byX h_mo_byY h_mo_fieldOf h_mo_isSewn h_mo_isTouched hbg _ (lv_sub hl [0, 1, 2, 3, 4, 5, 6, 7] rfl)
              · replace hf := (if_neg c17).symm.trans hf
                refine lv_iload hx hb dX7_covered_90 (lv_at hl 7 rfl) ?_
                obtain ⟨k18, hf⟩ := zck_some hf
                refine lz_if_ne (tgt := 121) hx hb k18 dX7_covered_92 (by decide) (fun c19 => ?_) (fun c19 => ?_)
                · replace hf := (if_neg c19).symm.trans hf
                  exact JL79_121 x8 _ _ _ hH h_mo h_mo_colour h_mo_layer h_mo_isColumn h_mo_corners h_mo_cornerX h_mo_cornerY h_mo_density h_mo_longest h_mo_shift h_mo_pull h_mo_hasUnderlay h_mo_pointX h_mo_pointY h_mo_crossing h_mo_kind h_mo_byX h_mo_byY h_mo_fieldOf h_mo_isSewn h_mo_isTouched hbg _ (lv_sub hl [0, 1, 2, 3, 4, 5, 6, 8] rfl) hf
                · replace hf := (if_pos c19).symm.trans hf
                  refine lv_aload_n hx hb dX7_covered_95 rfl (lv_at hl 0 rfl) ?_
                  refine zget hx hb inlX7 rfl 16 rfl zk_t4_129 hts hown hK hH hk_mo h_mo rfl dX7_covered_96 ?_
                  refine lv_iload hx hb dX7_covered_99 (lv_at hl 8 rfl) ?_
                  obtain ⟨k20, hf⟩ := zck_some hf
                  refine ziald hx hb hK hH hk_mo_crossing 0 h_mo_crossing rfl k20 rfl dX7_covered_101 ?_
                  refine lv_iload hx hb dX7_covered_102 (lv_at hl 6 rfl) ?_
                  obtain ⟨k21, hf⟩ := zck_some hf
                  refine lz_icmp_gt (tgt := 125) hx hb k21 dX7_covered_104 (by decide) (fun c22 => ?_) (fun c22 => ?_)
                  · replace hf := (if_pos c22).symm.trans hf
                    refine lv_iconst (v := zI 0) hx hb dX7_covered_125 (by decide +kernel) ?_
                    refine lv_istore (lv' := [(7, .int (zI 0)), (0, .ref (ad 19)), (1, .int (zI x1)), (2, .int (zI x2)), (3, .int (zI x3)), (4, .int (zI x4)), (5, .int (zI x5)), (6, .int (zI x6)), (8, .int (zI x8))]) hx hb dX7_covered_126 hl (by decide) rfl (fun ls hl => ?_)
                    refine lz_iinc (lv' := [(8, .int (zI (x8 + 2))), (7, .int (zI 0)), (0, .ref (ad 19)), (1, .int (zI x1)), (2, .int (zI x2)), (3, .int (zI x3)), (4, .int (zI x4)), (5, .int (zI x5)), (6, .int (zI x6))]) hx hb dX7_covered_128 hl (j := 8) rfl (by decide) rfl (fun ls hl => ?_)
                    refine lv_goto (tgt := 79) hx hb dX7_covered_131 (by decide) ?_
                    cases hf
                    exact ih 0 (x8 + 2) _ _ hnx _ _ _ hH h_mo h_mo_colour h_mo_layer h_mo_isColumn h_mo_corners h_mo_cornerX h_mo_cornerY h_mo_density h_mo_longest h_mo_shift h_mo_pull h_mo_hasUnderlay h_mo_pointX h_mo_pointY h_mo_crossing h_mo_kind h_mo_byX h_mo_byY h_mo_fieldOf h_mo_isSewn h_mo_isTouched hbg _ (lv_sub hl [2, 3, 4, 5, 6, 7, 8, 1, 0] rfl) kx
                  · replace hf := (if_neg c22).symm.trans hf
                    refine lv_iload hx hb dX7_covered_107 (lv_at hl 6 rfl) ?_
                    refine lv_aload_n hx hb dX7_covered_109 rfl (lv_at hl 0 rfl) ?_
                    refine zget hx hb inlX7 rfl 16 rfl zk_t4_129 hts hown hK hH hk_mo h_mo rfl dX7_covered_110 ?_
                    refine lv_iload hx hb dX7_covered_113 (lv_at hl 8 rfl) ?_
                    refine lv_iconst (v := zI 1) hx hb dX7_covered_115 (by decide +kernel) ?_
                    refine lz_iadd hx hb dX7_covered_116 ?_
                    obtain ⟨k23, hf⟩ := zck_some hf
                    refine ziald hx hb hK hH hk_mo_crossing 0 h_mo_crossing rfl k23 rfl dX7_covered_117 ?_
                    obtain ⟨k24, hf⟩ := zck_some hf
                    refine lz_icmp_gt (tgt := 125) hx hb k24 dX7_covered_118 (by decide) (fun c25 => ?_) (fun c25 => ?_)
                    · replace hf := (if_pos c25).symm.trans hf
                      refine lv_iconst (v := zI 0) hx hb dX7_covered_125 (by decide +kernel) ?_
                      refine lv_istore (lv' := [(7, .int (zI 0)), (0, .ref (ad 19)), (1, .int (zI x1)), (2, .int (zI x2)), (3, .int (zI x3)), (4, .int (zI x4)), (5, .int (zI x5)), (6, .int (zI x6)), (8, .int (zI x8))]) hx hb dX7_covered_126 hl (by decide) rfl (fun ls hl => ?_)
                      refine lz_iinc (lv' := [(8, .int (zI (x8 + 2))), (7, .int (zI 0)), (0, .ref (ad 19)), (1, .int (zI x1)), (2, .int (zI x2)), (3, .int (zI x3)), (4, .int (zI x4)), (5, .int (zI x5)), (6, .int (zI x6))]) hx hb dX7_covered_128 hl (j := 8) rfl (by decide) rfl (fun ls hl => ?_)
                      refine lv_goto (tgt := 79) hx hb dX7_covered_131 (by decide) ?_
                      cases hf
                      exact ih 0 (x8 + 2) _ _ hnx _ _ _ hH h_mo h_mo_colour h_mo_layer h_mo_isColumn h_mo_corners h_mo_cornerX h_mo_cornerY h_mo_density h_mo_longest h_mo_shift h_mo_pull h_mo_hasUnderlay h_mo_pointX h_mo_pointY h_mo_crossing h_mo_kind h_mo_byX h_mo_byY h_mo_fieldOf h_mo_isSewn h_mo_isTouched hbg _ (lv_sub hl [2, 3, 4, 5, 6, 7, 8, 1, 0] rfl) kx
                    · replace hf := (if_neg c25).symm.trans hf
                      exact JL79_121 x8 _ _ _ hH h_mo h_mo_colour h_mo_layer h_mo_isColumn h_mo_corners h_mo_cornerX h_mo_cornerY h_mo_density h_mo_longest h_mo_shift h_mo_pull h_mo_hasUnderlay h_mo_pointX h_mo_pointY h_mo_crossing h_mo_kind h_mo_byX h_mo_byY h_mo_fieldOf h_mo_isSewn h_mo_isTouched hbg _ (lv_sub hl [0, 1, 2, 3, 4, 5, 6, 8] rfl) hf
          unfold f_X7_covered_L66 at hf
          refine lv_iload hx hb dX7_covered_66 (lv_at hl 6 rfl) ?_
          refine lv_bipush (v := zI 32) hx hb dX7_covered_68 (by decide +kernel) ?_
          obtain ⟨k26, hf⟩ := zck_some hf
          refine lz_icmp_ge (tgt := 184) hx hb ⟨k26, by decide⟩ dX7_covered_70 (by decide) (fun c27 => ?_) (fun c27 => ?_)
          · replace hf := (if_pos c27).symm.trans hf
            cases hf
            cases hnx
            exact kx _ _ _ hH h_mo h_mo_colour h_mo_layer h_mo_isColumn h_mo_corners h_mo_cornerX h_mo_cornerY h_mo_density h_mo_longest h_mo_shift h_mo_pull h_mo_hasUnderlay h_mo_pointX h_mo_pointY h_mo_crossing h_mo_kind h_mo_byX h_mo_byY h_mo_fieldOf h_mo_isSewn h_mo_isTouched hbg _ (lv_sub hl [0, 1, 2, 3, 4, 5] rfl)
          · replace hf := (if_neg c27).symm.trans hf
            refine lv_iconst (v := zI 0) hx hb dX7_covered_73 (by decide +kernel) ?_
            refine lv_istore (lv' := [(7, .int (zI 0)), (0, .ref (ad 19)), (1, .int (zI x1)), (2, .int (zI x2)), (3, .int (zI x3)), (4, .int (zI x4)), (5, .int (zI x5)), (6, .int (zI x6))]) hx hb dX7_covered_74 hl (by decide) rfl (fun ls hl => ?_)
            refine lv_iconst (v := zI 0) hx hb dX7_covered_76 (by decide +kernel) ?_
            refine lv_istore (lv' := [(8, .int (zI 0)), (7, .int (zI 0)), (0, .ref (ad 19)), (1, .int (zI x1)), (2, .int (zI x2)), (3, .int (zI x3)), (4, .int (zI x4)), (5, .int (zI x5)), (6, .int (zI x6))]) hx hb dX7_covered_77 hl (by decide) rfl (fun ls hl => ?_)
            obtain ⟨w29, w30, k28, hf⟩ := zb2_some hf
            refine L79 mo_pointX mo_pointY mo_points mo_crossing mo_crossings mo_isKnown mo_commands mo_kind mo_byX mo_byY mo_fieldOf mo_needleX mo_needleY mo_isSewn mo_isTouched mo_thrown mo_rowY x1 x2 x3 x4 x5 x6 zFU 0 0 w29 w30 k28 _ _ _ hH h_mo h_mo_colour h_mo_layer h_mo_isColumn h_mo_corners h_mo_cornerX h_mo_cornerY h_mo_density h_mo_longest h_mo_shift h_mo_pull h_mo_hasUnderlay h_mo_pointX h_mo_pointY h_mo_crossing h_mo_kind h_mo_byX h_mo_byY h_mo_fieldOf h_mo_isSewn h_mo_isTouched hbg _ (lv_sub hl [2, 3, 4, 5, 6, 7, 8, 1, 0] rfl) (fun σ31 Hσ31 lσ31 hH h_mo h_mo_colour h_mo_layer h_mo_isColumn h_mo_corners h_mo_cornerX h_mo_cornerY h_mo_density h_mo_longest h_mo_shift h_mo_pull h_mo_hasUnderlay h_mo_pointX h_mo_pointY h_mo_crossing h_mo_kind h_mo_byX h_mo_byY h_mo_fieldOf h_mo_isSewn h_mo_isTouched hbg ls hl => ?_)
            refine lv_iload_n hx hb dX7_covered_134 rfl (lv_at hl 3 rfl) ?_
            refine lv_iload hx hb dX7_covered_135 (lv_at hl 7 rfl) ?_
            obtain ⟨k32, hf⟩ := zck_some hf
            refine lz_if_eq (tgt := 144) hx hb k32 dX7_covered_137 (by decide) (fun c33 => ?_) (fun c33 => ?_)
            · replace hf := (if_pos c33).symm.trans hf
              refine lv_iconst (v := zI 0) hx hb dX7_covered_144 (by decide +kernel) ?_
              exact JL66_145 x4 x6 w29 x3 0 _ _ _ hH h_mo h_mo_colour h_mo_layer h_mo_isColumn h_mo_corners h_mo_cornerX h_mo_cornerY h_mo_density h_mo_longest h_mo_shift h_mo_pull h_mo_hasUnderlay h_mo_pointX h_mo_pointY h_mo_crossing h_mo_kind h_mo_byX h_mo_byY h_mo_fieldOf h_mo_isSewn h_mo_isTouched hbg _ (lv_sub hl [0, 1, 2, 4, 5, 6, 7] rfl) hf
            · replace hf := (if_neg c33).symm.trans hf
              refine lv_iconst (v := zI 1) hx hb dX7_covered_140 (by decide +kernel) ?_
              refine lv_goto (tgt := 145) hx hb dX7_covered_141 (by decide) ?_
              exact JL66_145 x4 x6 w29 x3 1 _ _ _ hH h_mo h_mo_colour h_mo_layer h_mo_isColumn h_mo_corners h_mo_cornerX h_mo_cornerY h_mo_density h_mo_longest h_mo_shift h_mo_pull h_mo_hasUnderlay h_mo_pointX h_mo_pointY h_mo_crossing h_mo_kind h_mo_byX h_mo_byY h_mo_fieldOf h_mo_isSewn h_mo_isTouched hbg _ (lv_sub hl [0, 1, 2, 4, 5, 6, 7] rfl) hf
      unfold f_X7_covered_L49 at hf
      refine lv_iload hx hb dX7_covered_49 (lv_at hl 5 rfl) ?_
      refine lv_bipush (v := zI 32) hx hb dX7_covered_51 (by decide +kernel) ?_
      obtain ⟨k34, hf⟩ := zck_some hf
      refine lz_icmp_ge (tgt := 190) hx hb ⟨k34, by decide⟩ dX7_covered_53 (by decide) (fun c35 => ?_) (fun c35 => ?_)
      · replace hf := (if_pos c35).symm.trans hf
        cases hf
        cases hnx
        exact kx _ _ _ hH h_mo h_mo_colour h_mo_layer h_mo_isColumn h_mo_corners h_mo_cornerX h_mo_cornerY h_mo_density h_mo_longest h_mo_shift h_mo_pull h_mo_hasUnderlay h_mo_pointX h_mo_pointY h_mo_crossing h_mo_kind h_mo_byX h_mo_byY h_mo_fieldOf h_mo_isSewn h_mo_isTouched hbg _ (lv_sub hl [3, 4] rfl)
      · replace hf := (if_neg c35).symm.trans hf
        refine lv_aload_n hx hb dX7_covered_56 rfl (lv_at hl 0 rfl) ?_
        refine lv_iload_n hx hb dX7_covered_57 rfl (lv_at hl 1 rfl) ?_
        refine lv_iload hx hb dX7_covered_58 (lv_at hl 5 rfl) ?_
        obtain ⟨a36, u37, k38, hf⟩ := zb2_some hf
        refine zcVv (C := RX7) (As := [.int (zI x1), .int (zI x5)]) (rest := []) hx hb hml hown hts hl.1 hK hH hA (c_X7_crosses hI hN  h_mo h_mo_corners h_mo_cornerX h_mo_cornerY h_mo_crossing k38) zk_t5_83 zk_t5_85 zk_s3_7 zk_t1_6 zk_t5_86 hd_X7_crosses rfl ⟨rfl, rfl, Nat.le_of_ble_eq_true rfl, Nat.le_of_ble_eq_true rfl⟩ ⟨Nat.zero_le _, Nat.zero_le _⟩ hk_mo h_mo rfl rfl rfl (Nat.le_of_ble_eq_true rfl) dX7_covered_60 (fun σ39 Hσ39 lσ39 hp hH => ?_)
        obtain ⟨h_mo, h_mo_crossing, hn⟩ := hp
        have h_mo_colour := (hn 20 (by decide) (by decide)).trans h_mo_colour
        have h_mo_layer := (hn 21 (by decide) (by decide)).trans h_mo_layer
        have h_mo_isColumn := (hn 22 (by decide) (by decide)).trans h_mo_isColumn
        have h_mo_corners := (hn 23 (by decide) (by decide)).trans h_mo_corners
        have h_mo_cornerX := (hn 24 (by decide) (by decide)).trans h_mo_cornerX
        have h_mo_cornerY := (hn 25 (by decide) (by decide)).trans h_mo_cornerY
        have h_mo_density := (hn 26 (by decide) (by decide)).trans h_mo_density
        have h_mo_longest := (hn 27 (by decide) (by decide)).trans h_mo_longest
        have h_mo_shift := (hn 28 (by decide) (by decide)).trans h_mo_shift
        have h_mo_pull := (hn 29 (by decide) (by decide)).trans h_mo_pull
        have h_mo_hasUnderlay := (hn 30 (by decide) (by decide)).trans h_mo_hasUnderlay
        have h_mo_pointX := (hn 31 (by decide) (by decide)).trans h_mo_pointX
        have h_mo_pointY := (hn 32 (by decide) (by decide)).trans h_mo_pointY
        have h_mo_kind := (hn 34 (by decide) (by decide)).trans h_mo_kind
        have h_mo_byX := (hn 35 (by decide) (by decide)).trans h_mo_byX
        have h_mo_byY := (hn 36 (by decide) (by decide)).trans h_mo_byY
        have h_mo_fieldOf := (hn 37 (by decide) (by decide)).trans h_mo_fieldOf
        have h_mo_isSewn := (hn 38 (by decide) (by decide)).trans h_mo_isSewn
        have h_mo_isTouched := (hn 39 (by decide) (by decide)).trans h_mo_isTouched
        have hbg : ∀ i : Nat, i ≠ 19 → i ≠ 31 → i ≠ 32 → i ≠ 33 → i ≠ 34 → i ≠ 35 → i ≠ 36 → i ≠ 37 → i ≠ 38 → i ≠ 39 → σ39 i = σ0 i := fun i a0 a1 a2 a3 a4 a5 a6 a7 a8 a9 => (hn i a0 a3).trans (hbg i a0 a1 a2 a3 a4 a5 a6 a7 a8 a9)
        refine lv_iconst (v := zI 0) hx hb dX7_covered_63 (by decide +kernel) ?_
        refine lv_istore (lv' := [(6, .int (zI 0)), (0, .ref (ad 19)), (1, .int (zI x1)), (2, .int (zI x2)), (3, .int (zI x3)), (4, .int (zI x4)), (5, .int (zI x5))]) hx hb dX7_covered_64 hl (by decide) rfl (fun ls hl => ?_)
        obtain ⟨w41, w42, w43, k40, hf⟩ := zb3_some hf
        refine L66 mo_pointX mo_pointY mo_points a36 u37 mo_isKnown mo_commands mo_kind mo_byX mo_byY mo_fieldOf mo_needleX mo_needleY mo_isSewn mo_isTouched mo_thrown mo_rowY x1 x2 x5 zFU x3 x4 0 w41 w42 w43 k40 _ _ _ hH h_mo h_mo_colour h_mo_layer h_mo_isColumn h_mo_corners h_mo_cornerX h_mo_cornerY h_mo_density h_mo_longest h_mo_shift h_mo_pull h_mo_hasUnderlay h_mo_pointX h_mo_pointY h_mo_crossing h_mo_kind h_mo_byX h_mo_byY h_mo_fieldOf h_mo_isSewn h_mo_isTouched hbg _ (lv_sub hl [1, 2, 3, 4, 5, 6, 0] rfl) (fun σ44 Hσ44 lσ44 hH h_mo h_mo_colour h_mo_layer h_mo_isColumn h_mo_corners h_mo_cornerX h_mo_cornerY h_mo_density h_mo_longest h_mo_shift h_mo_pull h_mo_hasUnderlay h_mo_pointX h_mo_pointY h_mo_crossing h_mo_kind h_mo_byX h_mo_byY h_mo_fieldOf h_mo_isSewn h_mo_isTouched hbg ls hl => ?_)
        refine lz_iinc (lv' := [(5, .int (zI (x5 + 1))), (0, .ref (ad 19)), (1, .int (zI x1)), (2, .int (zI x2)), (3, .int (zI w41)), (4, .int (zI w42))]) hx hb dX7_covered_184 hl (j := 5) rfl (by decide) rfl (fun ls hl => ?_)
        refine lv_goto (tgt := 49) hx hb dX7_covered_187 (by decide) ?_
        cases hf
        exact ih w41 w42 (x5 + 1) a36 u37 _ _ _ _ _ hnx _ _ _ hH h_mo h_mo_colour h_mo_layer h_mo_isColumn h_mo_corners h_mo_cornerX h_mo_cornerY h_mo_density h_mo_longest h_mo_shift h_mo_pull h_mo_hasUnderlay h_mo_pointX h_mo_pointY h_mo_crossing h_mo_kind h_mo_byX h_mo_byY h_mo_fieldOf h_mo_isSewn h_mo_isTouched hbg _ (lv_sub hl [1, 2, 3, 4, 5, 0] rfl) kx
  unfold f_X7_covered at hf
  refine lv_aload_n hx hb dX7_covered_0 rfl (lv_at hl 0 rfl) ?_
  refine lv_aload_n hx hb dX7_covered_1 rfl (lv_at hl 0 rfl) ?_
  refine lv_iload_n hx hb dX7_covered_2 rfl (lv_at hl 1 rfl) ?_
  obtain ⟨r45, k46, hf⟩ := zb1_some hf
  refine zcVi (C := RX7) (As := [.int (zI p1)]) (rest := [.ref (ad 19)]) hx hb hml hown hts hl.1 hK hH hA (c_X7_isField hI hN  h_mo k46) zk_t5_23 zk_t5_25 zk_s2_15 zk_t1_6 zk_t5_26 hd_X7_isField rfl ⟨rfl, rfl, Nat.le_of_ble_eq_true rfl, Nat.le_of_ble_eq_true rfl⟩ ⟨Nat.zero_le _, Nat.zero_le _⟩ hk_mo h_mo rfl rfl rfl (Nat.le_of_ble_eq_true rfl) dX7_covered_3 (fun q48 σ47 Hσ47 lσ47 hp hH => ?_)
  obtain ⟨hr1, hs1⟩ := hp; subst hr1; rw [hs1] at hH
  obtain ⟨r49, u50, k51, hf⟩ := zb2_some hf
  refine zcVi (C := RX7) (As := [.int (zI r45)]) (rest := []) hx hb hml hown hts hl.1 hK hH hA (c_X7_asks hI hN  h_mo k51) zk_t5_11 zk_t5_13 zk_s2_13 zk_t1_6 zk_t5_14 hd_X7_asks rfl ⟨rfl, rfl, Nat.le_of_ble_eq_true rfl, Nat.le_of_ble_eq_true rfl⟩ ⟨Nat.zero_le _, Nat.zero_le _⟩ hk_mo h_mo rfl rfl rfl (Nat.le_of_ble_eq_true rfl) dX7_covered_6 (fun q53 σ52 Hσ52 lσ52 hp hH => ?_)
  obtain ⟨hr1, h_mo, hn⟩ := hp
  subst hr1
  have h_mo_colour := (hn 20 (by decide)).trans h_mo_colour
  have h_mo_layer := (hn 21 (by decide)).trans h_mo_layer
  have h_mo_isColumn := (hn 22 (by decide)).trans h_mo_isColumn
  have h_mo_corners := (hn 23 (by decide)).trans h_mo_corners
  have h_mo_cornerX := (hn 24 (by decide)).trans h_mo_cornerX
  have h_mo_cornerY := (hn 25 (by decide)).trans h_mo_cornerY
  have h_mo_density := (hn 26 (by decide)).trans h_mo_density
  have h_mo_longest := (hn 27 (by decide)).trans h_mo_longest
  have h_mo_shift := (hn 28 (by decide)).trans h_mo_shift
  have h_mo_pull := (hn 29 (by decide)).trans h_mo_pull
  have h_mo_hasUnderlay := (hn 30 (by decide)).trans h_mo_hasUnderlay
  have h_mo_pointX := (hn 31 (by decide)).trans h_mo_pointX
  have h_mo_pointY := (hn 32 (by decide)).trans h_mo_pointY
  have h_mo_crossing := (hn 33 (by decide)).trans h_mo_crossing
  have h_mo_kind := (hn 34 (by decide)).trans h_mo_kind
  have h_mo_byX := (hn 35 (by decide)).trans h_mo_byX
  have h_mo_byY := (hn 36 (by decide)).trans h_mo_byY
  have h_mo_fieldOf := (hn 37 (by decide)).trans h_mo_fieldOf
  have h_mo_isSewn := (hn 38 (by decide)).trans h_mo_isSewn
  have h_mo_isTouched := (hn 39 (by decide)).trans h_mo_isTouched
  have hbg : ∀ i : Nat, i ≠ 19 → i ≠ 31 → i ≠ 32 → i ≠ 33 → i ≠ 34 → i ≠ 35 → i ≠ 36 → i ≠ 37 → i ≠ 38 → i ≠ 39 → σ52 i = σ0 i := fun i a0 a1 a2 a3 a4 a5 a6 a7 a8 a9 => (hn i a0).trans (hbg i a0 a1 a2 a3 a4 a5 a6 a7 a8 a9)
  obtain ⟨k54, hf⟩ := zck_some hf
  refine lz_if_ne (tgt := 14) hx hb k54 dX7_covered_9 (by decide) (fun c55 => ?_) (fun c55 => ?_)
  · replace hf := (if_neg c55).symm.trans hf
    refine lv_aload_n hx hb dX7_covered_14 rfl (lv_at hl 0 rfl) ?_
    refine zget hx hb inlX7 rfl 3 rfl zk_t4_116 hts hown hK hH hk_mo h_mo rfl dX7_covered_15 ?_
    refine lv_iload_n hx hb dX7_covered_18 rfl (lv_at hl 1 rfl) ?_
    obtain ⟨k56, hf⟩ := zck_some hf
    refine zzald hx hb hK hH hk_mo_isColumn 1 h_mo_isColumn rfl k56 rfl dX7_covered_19 ?_
    obtain ⟨k57, hf⟩ := zck_some hf
    refine lz_if_ne (tgt := 33) hx hb k57 dX7_covered_20 (by decide) (fun c58 => ?_) (fun c58 => ?_)
    · replace hf := (if_neg c58).symm.trans hf
      refine lv_fconst0 hx hb dX7_covered_33 ?_
      cases hf
      exact zretf hx hb hr hlocks hQ hH ⟨rfl, h_mo, h_mo_pointX, h_mo_pointY, h_mo_crossing, h_mo_kind, h_mo_byX, h_mo_byY, h_mo_fieldOf, h_mo_isSewn, h_mo_isTouched, hbg⟩ dX7_covered_34
    · replace hf := (if_pos c58).symm.trans hf
      refine lv_aload_n hx hb dX7_covered_23 rfl (lv_at hl 0 rfl) ?_
      refine zget hx hb inlX7 rfl 4 rfl zk_t4_117 hts hown hK hH hk_mo h_mo rfl dX7_covered_24 ?_
      refine lv_iload_n hx hb dX7_covered_27 rfl (lv_at hl 1 rfl) ?_
      obtain ⟨k59, hf⟩ := zck_some hf
      refine ziald hx hb hK hH hk_mo_corners 0 h_mo_corners rfl k59 rfl dX7_covered_28 ?_
      refine lv_iconst (v := zI 3) hx hb dX7_covered_29 (by decide +kernel) ?_
      obtain ⟨k60, hf⟩ := zck_some hf
      refine lz_icmp_ge (tgt := 35) hx hb ⟨k60, by decide⟩ dX7_covered_30 (by decide) (fun c61 => ?_) (fun c61 => ?_)
      · replace hf := (if_pos c61).symm.trans hf
        refine lv_aload_n hx hb dX7_covered_35 rfl (lv_at hl 0 rfl) ?_
        refine lv_iload_n hx hb dX7_covered_36 rfl (lv_at hl 1 rfl) ?_
        obtain ⟨r62, a63, a64, u65, a66, u67, u68, u69, a70, a71, a72, a73, u74, u75, a76, a77, u78, k79, hf⟩ := zb17_some hf
        refine zcVi (C := RX7) (As := [.int (zI p1)]) (rest := []) hx hb hml hown hts hl.1 hK hH hA (c_X7_touches hI hN  h_mo h_mo_colour h_mo_layer h_mo_isColumn h_mo_corners h_mo_cornerX h_mo_cornerY h_mo_density h_mo_longest h_mo_shift h_mo_pull h_mo_hasUnderlay h_mo_pointX h_mo_pointY h_mo_crossing h_mo_kind h_mo_byX h_mo_byY h_mo_fieldOf h_mo_isSewn h_mo_isTouched k79) zk_t5_135 zk_t5_137 zk_s3_13 zk_t1_6 zk_t5_138 hd_X7_touches rfl ⟨rfl, rfl, Nat.le_of_ble_eq_true rfl, Nat.le_of_ble_eq_true rfl⟩ ⟨Nat.zero_le _, Nat.zero_le _⟩ hk_mo h_mo rfl rfl rfl (Nat.le_of_ble_eq_true rfl) dX7_covered_37 (fun q81 σ80 Hσ80 lσ80 hp hH => ?_)
        obtain ⟨hr1, h_mo, h_mo_pointX, h_mo_pointY, h_mo_crossing, h_mo_kind, h_mo_byX, h_mo_byY, h_mo_fieldOf, h_mo_isSewn, h_mo_isTouched, hn⟩ := hp
        subst hr1
        have h_mo_colour := (hn 20 (by decide) (by decide) (by decide) (by decide) (by decide) (by decide) (by decide) (by decide) (by decide) (by decide)).trans h_mo_colour
        have h_mo_layer := (hn 21 (by decide) (by decide) (by decide) (by decide) (by decide) (by decide) (by decide) (by decide) (by decide) (by decide)).trans h_mo_layer
        have h_mo_isColumn := (hn 22 (by decide) (by decide) (by decide) (by decide) (by decide) (by decide) (by decide) (by decide) (by decide) (by decide)).trans h_mo_isColumn
        have h_mo_corners := (hn 23 (by decide) (by decide) (by decide) (by decide) (by decide) (by decide) (by decide) (by decide) (by decide) (by decide)).trans h_mo_corners
        have h_mo_cornerX := (hn 24 (by decide) (by decide) (by decide) (by decide) (by decide) (by decide) (by decide) (by decide) (by decide) (by decide)).trans h_mo_cornerX
        have h_mo_cornerY := (hn 25 (by decide) (by decide) (by decide) (by decide) (by decide) (by decide) (by decide) (by decide) (by decide) (by decide)).trans h_mo_cornerY
        have h_mo_density := (hn 26 (by decide) (by decide) (by decide) (by decide) (by decide) (by decide) (by decide) (by decide) (by decide) (by decide)).trans h_mo_density
        have h_mo_longest := (hn 27 (by decide) (by decide) (by decide) (by decide) (by decide) (by decide) (by decide) (by decide) (by decide) (by decide)).trans h_mo_longest
        have h_mo_shift := (hn 28 (by decide) (by decide) (by decide) (by decide) (by decide) (by decide) (by decide) (by decide) (by decide) (by decide)).trans h_mo_shift
        have h_mo_pull := (hn 29 (by decide) (by decide) (by decide) (by decide) (by decide) (by decide) (by decide) (by decide) (by decide) (by decide)).trans h_mo_pull
        have h_mo_hasUnderlay := (hn 30 (by decide) (by decide) (by decide) (by decide) (by decide) (by decide) (by decide) (by decide) (by decide) (by decide)).trans h_mo_hasUnderlay
        have hbg : ∀ i : Nat, i ≠ 19 → i ≠ 31 → i ≠ 32 → i ≠ 33 → i ≠ 34 → i ≠ 35 → i ≠ 36 → i ≠ 37 → i ≠ 38 → i ≠ 39 → σ80 i = σ0 i := fun i a0 a1 a2 a3 a4 a5 a6 a7 a8 a9 => (hn i a0 a1 a2 a3 a4 a5 a6 a7 a8 a9).trans (hbg i a0 a1 a2 a3 a4 a5 a6 a7 a8 a9)
        refine lv_istore_n (lv' := [(2, .int (zI r62)), (0, .ref (ad 19)), (1, .int (zI p1))]) hx hb dX7_covered_40 rfl hl (by decide) rfl (fun ls hl => ?_)
        refine lv_iconst (v := zI 0) hx hb dX7_covered_41 (by decide +kernel) ?_
        refine lv_istore_n (lv' := [(3, .int (zI 0)), (2, .int (zI r62)), (0, .ref (ad 19)), (1, .int (zI p1))]) hx hb dX7_covered_42 rfl hl (by decide) rfl (fun ls hl => ?_)
        refine lv_iconst (v := zI 0) hx hb dX7_covered_43 (by decide +kernel) ?_
        refine lv_istore (lv' := [(4, .int (zI 0)), (3, .int (zI 0)), (2, .int (zI r62)), (0, .ref (ad 19)), (1, .int (zI p1))]) hx hb dX7_covered_44 hl (by decide) rfl (fun ls hl => ?_)
        refine lv_iconst (v := zI 0) hx hb dX7_covered_46 (by decide +kernel) ?_
        refine lv_istore (lv' := [(5, .int (zI 0)), (4, .int (zI 0)), (3, .int (zI 0)), (2, .int (zI r62)), (0, .ref (ad 19)), (1, .int (zI p1))]) hx hb dX7_covered_47 hl (by decide) rfl (fun ls hl => ?_)
        obtain ⟨w83, w84, w85, w86, w87, k82, hf⟩ := zb5_some hf
        refine L49 a63 a64 u65 u68 u69 a70 a71 a72 a73 u74 u75 a76 a77 u50 u78 p1 r62 zFU 0 0 0 a66 u67 w83 w84 w85 w86 w87 k82 _ _ _ hH h_mo h_mo_colour h_mo_layer h_mo_isColumn h_mo_corners h_mo_cornerX h_mo_cornerY h_mo_density h_mo_longest h_mo_shift h_mo_pull h_mo_hasUnderlay h_mo_pointX h_mo_pointY h_mo_crossing h_mo_kind h_mo_byX h_mo_byY h_mo_fieldOf h_mo_isSewn h_mo_isTouched hbg _ (lv_sub hl [4, 5, 3, 2, 1, 0] rfl) (fun σ88 Hσ88 lσ88 hH h_mo h_mo_colour h_mo_layer h_mo_isColumn h_mo_corners h_mo_cornerX h_mo_cornerY h_mo_density h_mo_longest h_mo_shift h_mo_pull h_mo_hasUnderlay h_mo_pointX h_mo_pointY h_mo_crossing h_mo_kind h_mo_byX h_mo_byY h_mo_fieldOf h_mo_isSewn h_mo_isTouched hbg ls hl => ?_)
        refine lv_iload_n hx hb dX7_covered_190 rfl (lv_at hl 0 rfl) ?_
        obtain ⟨k89, hf⟩ := zck_some hf
        refine lz_if_ne (tgt := 198) hx hb k89 dX7_covered_191 (by decide) (fun c90 => ?_) (fun c90 => ?_)
        · replace hf := (if_neg c90).symm.trans hf
          refine lv_iload hx hb dX7_covered_198 (lv_at hl 1 rfl) ?_
          refine lv_i2f hx hb dX7_covered_200 ?_
          refine lv_iload_n hx hb dX7_covered_201 rfl (lv_at hl 0 rfl) ?_
          refine lv_i2f hx hb dX7_covered_202 ?_
          obtain ⟨k91, hf⟩ := zck_some hf
          refine lv_fdiv hx hb dX7_covered_203 k91 ?_
          cases hf
          exact zretf hx hb hr hlocks hQ hH ⟨rfl, h_mo, h_mo_pointX, h_mo_pointY, h_mo_crossing, h_mo_kind, h_mo_byX, h_mo_byY, h_mo_fieldOf, h_mo_isSewn, h_mo_isTouched, hbg⟩ dX7_covered_204
        · replace hf := (if_pos c90).symm.trans hf
          refine lv_fconst0 hx hb dX7_covered_194 ?_
          refine lv_goto (tgt := 204) hx hb dX7_covered_195 (by decide) ?_
          cases hf
          exact zretf hx hb hr hlocks hQ hH ⟨rfl, h_mo, h_mo_pointX, h_mo_pointY, h_mo_crossing, h_mo_kind, h_mo_byX, h_mo_byY, h_mo_fieldOf, h_mo_isSewn, h_mo_isTouched, hbg⟩ dX7_covered_204
      · replace hf := (if_neg c61).symm.trans hf
        refine lv_fconst0 hx hb dX7_covered_33 ?_
        cases hf
        exact zretf hx hb hr hlocks hQ hH ⟨rfl, h_mo, h_mo_pointX, h_mo_pointY, h_mo_crossing, h_mo_kind, h_mo_byX, h_mo_byY, h_mo_fieldOf, h_mo_isSewn, h_mo_isTouched, hbg⟩ dX7_covered_34
  · replace hf := (if_pos c55).symm.trans hf
    refine lv_fconst0 hx hb dX7_covered_12 ?_
    cases hf
    exact zretf hx hb hr hlocks hQ hH ⟨rfl, h_mo, h_mo_pointX, h_mo_pointY, h_mo_crossing, h_mo_kind, h_mo_byX, h_mo_byY, h_mo_fieldOf, h_mo_isSewn, h_mo_isTouched, hbg⟩ dX7_covered_13
abbrev rmX7_touched : Room := { frames := 7, cells := 0, slots := 0, locals := 176 }
theorem hd_X7_touched : yX7_touched.cls = RX7 ∧ yX7_touched.cls ≠ "java/lang/invoke/MethodHandle" ∧ yX7_touched.cls ≠ "java/lang/invoke/VarHandle" ∧ (parseMethodDescriptor yX7_touched.desc).map (fun d => d.parameters.length) = some 1 := by decide +kernel
set_option maxHeartbeats 4000000 in
set_option maxRecDepth 100000 in
theorem c_X7_touched {l : Launch} {D : va_G} {cI cZ cF cL cD : ClassId} {ad : Nat → Nat} {N : Nat} (hI : ∀ i j, i < N → j < N → ad i = ad j → i = j) (hN : 46 ≤ N) {σ0 : Nat → va_E} {sz : Nat} {mo_fields : Int} {mo_colour : Int → Int} {mo_layer : Int → Int} {mo_isColumn : Int → Int} {mo_corners : Int → Int} {mo_cornerX : Int → Int} {mo_cornerY : Int → Int} {mo_density : Int → Int} {mo_longest : Int → Int} {mo_shift : Int → Int} {mo_pull : Int → Int} {mo_hasUnderlay : Int → Int} {mo_bound : Int} {mo_pointX : Int → Int} {mo_pointY : Int → Int} {mo_points : Int} {mo_crossing : Int → Int} {mo_crossings : Int} {mo_isKnown : Int} {mo_commands : Int} {mo_kind : Int → Int} {mo_byX : Int → Int} {mo_byY : Int → Int} {mo_fieldOf : Int → Int} {mo_needleX : Int} {mo_needleY : Int} {mo_isSewn : Int → Int} {mo_isTouched : Int → Int} {mo_hasFile : Int} {mo_format : Int} {mo_length : Int} {mo_heads : Int} {mo_late : Int} {mo_ran : Int} {mo_program : Int} {mo_thrown : Int} {mo_rowY : Int} {mo_stitches : Int} {p1 : Int} {R0 : Int} {R_mo_pointX : Int → Int} {R_mo_pointY : Int → Int} {R_mo_points : Int} {R_mo_crossing : Int → Int} {R_mo_crossings : Int} {R_mo_isKnown : Int} {R_mo_commands : Int} {R_mo_kind : Int → Int} {R_mo_byX : Int → Int} {R_mo_byY : Int → Int} {R_mo_fieldOf : Int → Int} {R_mo_needleX : Int} {R_mo_needleY : Int} {R_mo_isSewn : Int → Int} {R_mo_isTouched : Int → Int} {R_mo_thrown : Int} {R_mo_rowY : Int} (h_mo : σ0 19 = oC_mo ad mo_fields mo_bound mo_points mo_crossings mo_isKnown mo_commands mo_needleX mo_needleY mo_hasFile mo_format mo_length mo_heads mo_late mo_ran mo_program mo_thrown mo_rowY mo_stitches) (h_mo_colour : σ0 20 = .inl (cI, 8, .inl (zA mo_colour))) (h_mo_layer : σ0 21 = .inl (cI, 8, .inl (zA mo_layer))) (h_mo_isColumn : σ0 22 = .inl (cZ, 8, .inl (zA mo_isColumn))) (h_mo_corners : σ0 23 = .inl (cI, 8, .inl (zA mo_corners))) (h_mo_cornerX : σ0 24 = .inl (cI, 64, .inl (zA mo_cornerX))) (h_mo_cornerY : σ0 25 = .inl (cI, 64, .inl (zA mo_cornerY))) (h_mo_density : σ0 26 = .inl (cI, 8, .inl (zA mo_density))) (h_mo_longest : σ0 27 = .inl (cI, 8, .inl (zA mo_longest))) (h_mo_shift : σ0 28 = .inl (cI, 8, .inl (zA mo_shift))) (h_mo_pull : σ0 29 = .inl (cI, 8, .inl (zA mo_pull))) (h_mo_hasUnderlay : σ0 30 = .inl (cZ, 8, .inl (zA mo_hasUnderlay))) (h_mo_pointX : σ0 31 = .inl (cI, 4096, .inl (zA mo_pointX))) (h_mo_pointY : σ0 32 = .inl (cI, 4096, .inl (zA mo_pointY))) (h_mo_crossing : σ0 33 = .inl (cI, 8, .inl (zA mo_crossing))) (h_mo_kind : σ0 34 = .inl (cI, 20000, .inl (zA mo_kind))) (h_mo_byX : σ0 35 = .inl (cI, 20000, .inl (zA mo_byX))) (h_mo_byY : σ0 36 = .inl (cI, 20000, .inl (zA mo_byY))) (h_mo_fieldOf : σ0 37 = .inl (cI, 20000, .inl (zA mo_fieldOf))) (h_mo_isSewn : σ0 38 = .inl (cZ, 8, .inl (zA mo_isSewn))) (h_mo_isTouched : σ0 39 = .inl (cZ, 1024, .inl (zA mo_isTouched))) (hf : f_X7_touched mo_fields mo_colour mo_layer mo_isColumn mo_corners mo_cornerX mo_cornerY mo_density mo_longest mo_shift mo_pull mo_hasUnderlay mo_bound mo_pointX mo_pointY mo_points mo_crossing mo_crossings mo_isKnown mo_commands mo_kind mo_byX mo_byY mo_fieldOf mo_needleX mo_needleY mo_isSewn mo_isTouched mo_thrown mo_rowY p1 = some (R0, R_mo_pointX, R_mo_pointY, R_mo_points, R_mo_crossing, R_mo_crossings, R_mo_isKnown, R_mo_commands, R_mo_kind, R_mo_byX, R_mo_byY, R_mo_fieldOf, R_mo_needleX, R_mo_needleY, R_mo_isSewn, R_mo_isTouched, R_mo_thrown, R_mo_rowY)) :
    Met l yX7_touched (Cond.code yX7_touched cX7_touched 2 (some .int) :: wsL_law) rmX7_touched (zPre D ad N (zT cI cZ cF cL cD) σ0 sz [.ref (ad 19), .int (zI p1)]) (zQi D ad N sz (fun r σ' => r = zI R0 ∧ σ' 19 = oC_mo ad mo_fields mo_bound R_mo_points R_mo_crossings R_mo_isKnown R_mo_commands R_mo_needleX R_mo_needleY mo_hasFile mo_format mo_length mo_heads mo_late mo_ran mo_program R_mo_thrown R_mo_rowY mo_stitches ∧ σ' 31 = .inl (cI, 4096, .inl (zA R_mo_pointX)) ∧ σ' 32 = .inl (cI, 4096, .inl (zA R_mo_pointY)) ∧ σ' 33 = .inl (cI, 8, .inl (zA R_mo_crossing)) ∧ σ' 34 = .inl (cI, 20000, .inl (zA R_mo_kind)) ∧ σ' 35 = .inl (cI, 20000, .inl (zA R_mo_byX)) ∧ σ' 36 = .inl (cI, 20000, .inl (zA R_mo_byY)) ∧ σ' 37 = .inl (cI, 20000, .inl (zA R_mo_fieldOf)) ∧ σ' 38 = .inl (cZ, 8, .inl (zA R_mo_isSewn)) ∧ σ' 39 = .inl (cZ, 1024, .inl (zA R_mo_isTouched)) ∧ ∀ i : Nat, i ≠ 19 → i ≠ 31 → i ≠ 32 → i ≠ 33 → i ≠ 34 → i ≠ 35 → i ≠ 36 → i ≠ 37 → i ≠ 38 → i ≠ 39 → σ' i = σ0 i)) 0 0 (zFr ad N sz) := by
  refine zMet hI (plainFor_of_name (by decide)) (Nat.le_of_ble_eq_true rfl) ⟨rfl, rfl⟩ ?_
  intro p e s m args below meth c Q hx hb hr hlocks hml hown hts hK hsz hQ hH hA ls hl
  subst hsz
  have hk_mo : 19 < N := by omega
  have hk_mo_colour : 20 < N := by omega
  have hk_mo_layer : 21 < N := by omega
  have hk_mo_isColumn : 22 < N := by omega
  have hk_mo_corners : 23 < N := by omega
  have hk_mo_cornerX : 24 < N := by omega
  have hk_mo_cornerY : 25 < N := by omega
  have hk_mo_density : 26 < N := by omega
  have hk_mo_longest : 27 < N := by omega
  have hk_mo_shift : 28 < N := by omega
  have hk_mo_pull : 29 < N := by omega
  have hk_mo_hasUnderlay : 30 < N := by omega
  have hk_mo_pointX : 31 < N := by omega
  have hk_mo_pointY : 32 < N := by omega
  have hk_mo_crossing : 33 < N := by omega
  have hk_mo_kind : 34 < N := by omega
  have hk_mo_byX : 35 < N := by omega
  have hk_mo_byY : 36 < N := by omega
  have hk_mo_fieldOf : 37 < N := by omega
  have hk_mo_isSewn : 38 < N := by omega
  have hk_mo_isTouched : 39 < N := by omega
  have hl : lv_has ls 2 [(0, .ref (ad 19)), (1, .int (zI p1))] := hl
  have hbg : ∀ i : Nat, i ≠ 19 → i ≠ 31 → i ≠ 32 → i ≠ 33 → i ≠ 34 → i ≠ 35 → i ≠ 36 → i ≠ 37 → i ≠ 38 → i ≠ 39 → σ0 i = σ0 i := fun _ _ _ _ _ _ _ _ _ _ _ => rfl
  unfold f_X7_touched at hf
  refine lv_aload_n hx hb dX7_touched_0 rfl (lv_at hl 0 rfl) ?_
  refine lv_aload_n hx hb dX7_touched_1 rfl (lv_at hl 0 rfl) ?_
  refine lv_iload_n hx hb dX7_touched_2 rfl (lv_at hl 1 rfl) ?_
  obtain ⟨r1, k2, hf⟩ := zb1_some hf
  refine zcVi (C := RX7) (As := [.int (zI p1)]) (rest := [.ref (ad 19)]) hx hb hml hown hts hl.1 hK hH hA (c_X7_isField hI hN  h_mo k2) zk_t5_23 zk_t5_25 zk_s2_15 zk_t1_6 zk_t5_26 hd_X7_isField rfl ⟨rfl, rfl, Nat.le_of_ble_eq_true rfl, Nat.le_of_ble_eq_true rfl⟩ ⟨Nat.zero_le _, Nat.zero_le _⟩ hk_mo h_mo rfl rfl rfl (Nat.le_of_ble_eq_true rfl) dX7_touched_3 (fun q4 σ3 Hσ3 lσ3 hp hH => ?_)
  obtain ⟨hr1, hs1⟩ := hp; subst hr1; rw [hs1] at hH
  obtain ⟨r5, u6, k7, hf⟩ := zb2_some hf
  refine zcVi (C := RX7) (As := [.int (zI r1)]) (rest := []) hx hb hml hown hts hl.1 hK hH hA (c_X7_asks hI hN  h_mo k7) zk_t5_11 zk_t5_13 zk_s2_13 zk_t1_6 zk_t5_14 hd_X7_asks rfl ⟨rfl, rfl, Nat.le_of_ble_eq_true rfl, Nat.le_of_ble_eq_true rfl⟩ ⟨Nat.zero_le _, Nat.zero_le _⟩ hk_mo h_mo rfl rfl rfl (Nat.le_of_ble_eq_true rfl) dX7_touched_6 (fun q9 σ8 Hσ8 lσ8 hp hH => ?_)
  obtain ⟨hr1, h_mo, hn⟩ := hp
  subst hr1
  have h_mo_colour := (hn 20 (by decide)).trans h_mo_colour
  have h_mo_layer := (hn 21 (by decide)).trans h_mo_layer
  have h_mo_isColumn := (hn 22 (by decide)).trans h_mo_isColumn
  have h_mo_corners := (hn 23 (by decide)).trans h_mo_corners
  have h_mo_cornerX := (hn 24 (by decide)).trans h_mo_cornerX
  have h_mo_cornerY := (hn 25 (by decide)).trans h_mo_cornerY
  have h_mo_density := (hn 26 (by decide)).trans h_mo_density
  have h_mo_longest := (hn 27 (by decide)).trans h_mo_longest
  have h_mo_shift := (hn 28 (by decide)).trans h_mo_shift
  have h_mo_pull := (hn 29 (by decide)).trans h_mo_pull
  have h_mo_hasUnderlay := (hn 30 (by decide)).trans h_mo_hasUnderlay
  have h_mo_pointX := (hn 31 (by decide)).trans h_mo_pointX
  have h_mo_pointY := (hn 32 (by decide)).trans h_mo_pointY
  have h_mo_crossing := (hn 33 (by decide)).trans h_mo_crossing
  have h_mo_kind := (hn 34 (by decide)).trans h_mo_kind
  have h_mo_byX := (hn 35 (by decide)).trans h_mo_byX
  have h_mo_byY := (hn 36 (by decide)).trans h_mo_byY
  have h_mo_fieldOf := (hn 37 (by decide)).trans h_mo_fieldOf
  have h_mo_isSewn := (hn 38 (by decide)).trans h_mo_isSewn
  have h_mo_isTouched := (hn 39 (by decide)).trans h_mo_isTouched
  have hbg : ∀ i : Nat, i ≠ 19 → i ≠ 31 → i ≠ 32 → i ≠ 33 → i ≠ 34 → i ≠ 35 → i ≠ 36 → i ≠ 37 → i ≠ 38 → i ≠ 39 → σ8 i = σ0 i := fun i a0 a1 a2 a3 a4 a5 a6 a7 a8 a9 => (hn i a0).trans (hbg i a0 a1 a2 a3 a4 a5 a6 a7 a8 a9)
  obtain ⟨k10, hf⟩ := zck_some hf
  refine lz_if_eq (tgt := 20) hx hb k10 dX7_touched_9 (by decide) (fun c11 => ?_) (fun c11 => ?_)
  · replace hf := (if_pos c11).symm.trans hf
    refine lv_iconst (v := zI 0) hx hb dX7_touched_20 (by decide +kernel) ?_
    cases hf
    exact zreti hx hb hr hlocks hQ hH ⟨rfl, h_mo, h_mo_pointX, h_mo_pointY, h_mo_crossing, h_mo_kind, h_mo_byX, h_mo_byY, h_mo_fieldOf, h_mo_isSewn, h_mo_isTouched, hbg⟩ dX7_touched_21
  · replace hf := (if_neg c11).symm.trans hf
    refine lv_aload_n hx hb dX7_touched_12 rfl (lv_at hl 0 rfl) ?_
    refine lv_iload_n hx hb dX7_touched_13 rfl (lv_at hl 1 rfl) ?_
    obtain ⟨r12, a13, a14, u15, a16, u17, u18, u19, a20, a21, a22, a23, u24, u25, a26, a27, u28, k29, hf⟩ := zb17_some hf
    refine zcVi (C := RX7) (As := [.int (zI p1)]) (rest := []) hx hb hml hown hts hl.1 hK hH hA (c_X7_touches hI hN  h_mo h_mo_colour h_mo_layer h_mo_isColumn h_mo_corners h_mo_cornerX h_mo_cornerY h_mo_density h_mo_longest h_mo_shift h_mo_pull h_mo_hasUnderlay h_mo_pointX h_mo_pointY h_mo_crossing h_mo_kind h_mo_byX h_mo_byY h_mo_fieldOf h_mo_isSewn h_mo_isTouched k29) zk_t5_135 zk_t5_137 zk_s3_13 zk_t1_6 zk_t5_138 hd_X7_touches rfl ⟨rfl, rfl, Nat.le_of_ble_eq_true rfl, Nat.le_of_ble_eq_true rfl⟩ ⟨Nat.zero_le _, Nat.zero_le _⟩ hk_mo h_mo rfl rfl rfl (Nat.le_of_ble_eq_true rfl) dX7_touched_14 (fun q31 σ30 Hσ30 lσ30 hp hH => ?_)
    obtain ⟨hr1, h_mo, h_mo_pointX, h_mo_pointY, h_mo_crossing, h_mo_kind, h_mo_byX, h_mo_byY, h_mo_fieldOf, h_mo_isSewn, h_mo_isTouched, hn⟩ := hp
    subst hr1
    have h_mo_colour := (hn 20 (by decide) (by decide) (by decide) (by decide) (by decide) (by decide) (by decide) (by decide) (by decide) (by decide)).trans h_mo_colour
    have h_mo_layer := (hn 21 (by decide) (by decide) (by decide) (by decide) (by decide) (by decide) (by decide) (by decide) (by decide) (by decide)).trans h_mo_layer
    have h_mo_isColumn := (hn 22 (by decide) (by decide) (by decide) (by decide) (by decide) (by decide) (by decide) (by decide) (by decide) (by decide)).trans h_mo_isColumn
    have h_mo_corners := (hn 23 (by decide) (by decide) (by decide) (by decide) (by decide) (by decide) (by decide) (by decide) (by decide) (by decide)).trans h_mo_corners
    have h_mo_cornerX := (hn 24 (by decide) (by decide) (by decide) (by decide) (by decide) (by decide) (by decide) (by decide) (by decide) (by decide)).trans h_mo_cornerX
    have h_mo_cornerY := (hn 25 (by decide) (by decide) (by decide) (by decide) (by decide) (by decide) (by decide) (by decide) (by decide) (by decide)).trans h_mo_cornerY
    have h_mo_density := (hn 26 (by decide) (by decide) (by decide) (by decide) (by decide) (by decide) (by decide) (by decide) (by decide) (by decide)).trans h_mo_density
    have h_mo_longest := (hn 27 (by decide) (by decide) (by decide) (by decide) (by decide) (by decide) (by decide) (by decide) (by decide) (by decide)).trans h_mo_longest
    have h_mo_shift := (hn 28 (by decide) (by decide) (by decide) (by decide) (by decide) (by decide) (by decide) (by decide) (by decide) (by decide)).trans h_mo_shift
    have h_mo_pull := (hn 29 (by decide) (by decide) (by decide) (by decide) (by decide) (by decide) (by decide) (by decide) (by decide) (by decide)).trans h_mo_pull
    have h_mo_hasUnderlay := (hn 30 (by decide) (by decide) (by decide) (by decide) (by decide) (by decide) (by decide) (by decide) (by decide) (by decide)).trans h_mo_hasUnderlay
    have hbg : ∀ i : Nat, i ≠ 19 → i ≠ 31 → i ≠ 32 → i ≠ 33 → i ≠ 34 → i ≠ 35 → i ≠ 36 → i ≠ 37 → i ≠ 38 → i ≠ 39 → σ30 i = σ0 i := fun i a0 a1 a2 a3 a4 a5 a6 a7 a8 a9 => (hn i a0 a1 a2 a3 a4 a5 a6 a7 a8 a9).trans (hbg i a0 a1 a2 a3 a4 a5 a6 a7 a8 a9)
    refine lv_goto (tgt := 21) hx hb dX7_touched_17 (by decide) ?_
    cases hf
    exact zreti hx hb hr hlocks hQ hH ⟨rfl, h_mo, h_mo_pointX, h_mo_pointY, h_mo_crossing, h_mo_kind, h_mo_byX, h_mo_byY, h_mo_fieldOf, h_mo_isSewn, h_mo_isTouched, hbg⟩ dX7_touched_21
abbrev rmX7_limitOf : Room := { frames := 0, cells := 0, slots := 0, locals := 0 }
theorem hd_X7_limitOf : yX7_limitOf.cls ≠ "java/lang/invoke/MethodHandle" ∧ yX7_limitOf.cls ≠ "java/lang/invoke/VarHandle" ∧ (parseMethodDescriptor yX7_limitOf.desc).map (fun d => d.parameters.length) = some 1 := by decide +kernel
set_option maxHeartbeats 4000000 in
set_option maxRecDepth 100000 in
theorem c_X7_limitOf {l : Launch} {D : va_G} {cI cZ cF cL cD : ClassId} {ad : Nat → Nat} {N : Nat} (hI : ∀ i j, i < N → j < N → ad i = ad j → i = j) (hN : 46 ≤ N) {σ0 : Nat → va_E} {sz : Nat} {p0 : Int} {R0 : Int}  (hf : f_X7_limitOf p0 = some R0) :
    Met l yX7_limitOf (Cond.code yX7_limitOf cX7_limitOf 1 (some .int) :: wsL_law) rmX7_limitOf (zPre D ad N (zT cI cZ cF cL cD) σ0 sz [.int (zI p0)]) (zQi D ad N sz (fun r σ' => r = zI R0 ∧ σ' = σ0)) 0 0 (zFr ad N sz) := by
  refine zMet hI (plainFor_of_name (by decide)) (Nat.le_of_ble_eq_true rfl) ⟨rfl, rfl⟩ ?_
  intro p e s m args below meth c Q hx hb hr hlocks hml hown hts hK hsz hQ hH hA ls hl
  subst hsz
  have hl : lv_has ls 1 [(0, .int (zI p0))] := hl
  have hbg : σ0 = σ0 := rfl
  unfold f_X7_limitOf at hf
  refine lv_iload_n hx hb dX7_limitOf_0 rfl (lv_at hl 0 rfl) ?_
  obtain ⟨k1, hf⟩ := zck_some hf
  refine lz_if_ne (tgt := 9) hx hb k1 dX7_limitOf_1 (by decide) (fun c2 => ?_) (fun c2 => ?_)
  · replace hf := (if_neg c2).symm.trans hf
    refine lv_bipush (v := zI 121) hx hb dX7_limitOf_9 (by decide +kernel) ?_
    cases hf
    exact zreti hx hb hr hlocks hQ hH ⟨rfl, hbg⟩ dX7_limitOf_11
  · replace hf := (if_pos c2).symm.trans hf
    refine lv_bipush (v := zI 12) hx hb dX7_limitOf_4 (by decide +kernel) ?_
    refine lv_goto (tgt := 11) hx hb dX7_limitOf_6 (by decide) ?_
    cases hf
    exact zreti hx hb hr hlocks hQ hH ⟨rfl, hbg⟩ dX7_limitOf_11
