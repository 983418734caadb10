abbrev rmX7_breaks : Room := { frames := 2, cells := 0, slots := 0, locals := 43 }
theorem hd_X7_breaks : yX7_breaks.cls = RX7 ∧ yX7_breaks.cls ≠ "java/lang/invoke/MethodHandle" ∧ yX7_breaks.cls ≠ "java/lang/invoke/VarHandle" ∧ (parseMethodDescriptor yX7_breaks.desc).map (fun d => d.parameters.length) = some 1 := by decide +kernel
set_option maxHeartbeats 4000000 in
set_option maxRecDepth 100000 in
theorem c_X7_breaks {l : Launch} {D : va_G} {cI cZ cF cL cD : ClassId} {ad : Nat → Nat} {N : Nat} (hI : ∀ i j, i < N → j < N → ad i = ad j → i = j) (hN : 46 ≤ N) {σ0 : Nat → va_E} {sz : Nat} {mo_fields : Int} {mo_bound : Int} {mo_points : Int} {mo_crossings : Int} {mo_isKnown : Int} {mo_commands : Int} {mo_needleX : Int} {mo_needleY : Int} {mo_hasFile : Int} {mo_format : Int} {mo_length : Int} {mo_heads : Int} {mo_late : Int} {mo_ran : Int} {mo_program : Int} {mo_brokenAt : Int → Int} {mo_thrown : Int} {mo_rowY : Int} {mo_stitches : Int} {p1 : Int} {R_mo_brokenAt : Int → Int} {R_mo_thrown : Int} (h_mo : σ0 19 = oC_mo ad mo_fields mo_bound mo_points mo_crossings mo_isKnown mo_commands mo_needleX mo_needleY mo_hasFile mo_format mo_length mo_heads mo_late mo_ran mo_program mo_thrown mo_rowY mo_stitches) (h_mo_brokenAt : σ0 42 = .inl (cI, 4, .inl (zA mo_brokenAt))) (hf : f_X7_breaks mo_heads mo_ran mo_brokenAt mo_thrown p1 = some (R_mo_brokenAt, R_mo_thrown)) :
    Met l yX7_breaks (Cond.code yX7_breaks cX7_breaks 2 none :: wsL_law) rmX7_breaks (zPre D ad N (zT cI cZ cF cL cD) σ0 sz [.ref (ad 19), .int (zI p1)]) (zQv D ad N sz (fun σ' => σ' 19 = oC_mo ad mo_fields mo_bound mo_points mo_crossings mo_isKnown mo_commands mo_needleX mo_needleY mo_hasFile mo_format mo_length mo_heads mo_late mo_ran mo_program R_mo_thrown mo_rowY mo_stitches ∧ σ' 42 = .inl (cI, 4, .inl (zA R_mo_brokenAt)) ∧ ∀ i : Nat, i ≠ 19 → i ≠ 42 → σ' i = σ0 i)) 0 0 (zFr ad N sz) := by
  refine zMet hI (plainFor_of_name (by decide)) (Nat.le_of_ble_eq_true rfl) ⟨rfl, rfl⟩ ?_
  intro p e s m args below meth c Q hx hb hr hlocks hml hown hts hK hsz hQ hH hA ls hl
  subst hsz
  have hk_mo : 19 < N := by omega
  have hk_mo_brokenAt : 42 < N := by omega
  have hl : lv_has ls 2 [(0, .ref (ad 19)), (1, .int (zI p1))] := hl
  have hbg : ∀ i : Nat, i ≠ 19 → i ≠ 42 → σ0 i = σ0 i := fun _ _ _ => rfl
  unfold f_X7_breaks at hf
  refine lv_aload_n hx hb dX7_breaks_0 rfl (lv_at hl 0 rfl) ?_
  refine lv_aload_n hx hb dX7_breaks_1 rfl (lv_at hl 0 rfl) ?_
  refine lv_iload_n hx hb dX7_breaks_2 rfl (lv_at hl 1 rfl) ?_
  obtain ⟨r1, k2, hf⟩ := zb1_some hf
  refine zcVi (C := RX7) (As := [.int (zI p1)]) (rest := [.ref (ad 19)]) hx hb hml hown hts hl.1 hK hH hA (c_X7_isHead hI hN  h_mo k2) zk_t5_217 zk_t5_219 zk_s4_6 zk_t1_6 zk_t5_220 hd_X7_isHead rfl ⟨rfl, rfl, Nat.le_of_ble_eq_true rfl, Nat.le_of_ble_eq_true rfl⟩ ⟨Nat.zero_le _, Nat.zero_le _⟩ hk_mo h_mo rfl rfl rfl (Nat.le_of_ble_eq_true rfl) dX7_breaks_3 (fun q4 σ3 Hσ3 lσ3 hp hH => ?_)
  obtain ⟨hr1, hs1⟩ := hp; subst hr1; rw [hs1] at hH
  obtain ⟨r5, u6, k7, hf⟩ := zb2_some hf
  refine zcVi (C := RX7) (As := [.int (zI r1)]) (rest := []) hx hb hml hown hts hl.1 hK hH hA (c_X7_asks hI hN  h_mo k7) zk_t5_11 zk_t5_13 zk_s2_13 zk_t1_6 zk_t5_14 hd_X7_asks rfl ⟨rfl, rfl, Nat.le_of_ble_eq_true rfl, Nat.le_of_ble_eq_true rfl⟩ ⟨Nat.zero_le _, Nat.zero_le _⟩ hk_mo h_mo rfl rfl rfl (Nat.le_of_ble_eq_true rfl) dX7_breaks_6 (fun q9 σ8 Hσ8 lσ8 hp hH => ?_)
  obtain ⟨hr1, h_mo, hn⟩ := hp
  subst hr1
  have h_mo_brokenAt := (hn 42 (by decide)).trans h_mo_brokenAt
  have hbg : ∀ i : Nat, i ≠ 19 → i ≠ 42 → σ8 i = σ0 i := fun i a0 a1 => (hn i a0).trans (hbg i a0 a1)
  obtain ⟨k10, hf⟩ := zck_some hf
  refine lz_if_ne (tgt := 13) hx hb k10 dX7_breaks_9 (by decide) (fun c11 => ?_) (fun c11 => ?_)
  · replace hf := (if_neg c11).symm.trans hf
    refine lv_aload_n hx hb dX7_breaks_13 rfl (lv_at hl 0 rfl) ?_
    refine zget hx hb inlX7 rfl 37 rfl zk_t4_150 hts hown hK hH hk_mo h_mo rfl dX7_breaks_14 ?_
    refine lv_iload_n hx hb dX7_breaks_17 rfl (lv_at hl 1 rfl) ?_
    obtain ⟨k12, hf⟩ := zck_some hf
    refine ziald hx hb hK hH hk_mo_brokenAt 0 h_mo_brokenAt rfl k12 rfl dX7_breaks_18 ?_
    refine lv_iconst (v := zI (-1)) hx hb dX7_breaks_19 (by decide +kernel) ?_
    obtain ⟨k13, hf⟩ := zck_some hf
    refine lz_icmp_eq (tgt := 29) hx hb ⟨k13, by decide⟩ dX7_breaks_20 (by decide) (fun c14 => ?_) (fun c14 => ?_)
    · replace hf := (if_pos c14).symm.trans hf
      refine lv_aload_n hx hb dX7_breaks_29 rfl (lv_at hl 0 rfl) ?_
      refine zget hx hb inlX7 rfl 37 rfl zk_t4_150 hts hown hK hH hk_mo h_mo rfl dX7_breaks_30 ?_
      refine lv_iload_n hx hb dX7_breaks_33 rfl (lv_at hl 1 rfl) ?_
      refine lv_aload_n hx hb dX7_breaks_34 rfl (lv_at hl 0 rfl) ?_
      refine zget hx hb inlX7 rfl 34 rfl zk_t4_147 hts hown hK hH hk_mo h_mo rfl dX7_breaks_35 ?_
      obtain ⟨k15, hf⟩ := zck_some hf
      obtain ⟨a17, ea17, hf⟩ := zlt_some hf
      refine ziast hx hb hK hH hk_mo_brokenAt 0 h_mo_brokenAt rfl k15 rfl dX7_breaks_38 (fun σ16 Hσ16 lσ16 h_mo_brokenAt hn hH => ?_)
      rw [← ea17] at h_mo_brokenAt
      have h_mo := (hn 19 (by decide)).trans h_mo
      have hbg : ∀ i : Nat, i ≠ 19 → i ≠ 42 → σ16 i = σ0 i := fun i a0 a1 => (hn i a1).trans (hbg i a0 a1)
      cases hf
      exact zretv hx hb hr hlocks hQ hH ⟨h_mo, h_mo_brokenAt, hbg⟩ dX7_breaks_39
    · replace hf := (if_neg c14).symm.trans hf
      refine lv_aload_n hx hb dX7_breaks_23 rfl (lv_at hl 0 rfl) ?_
      refine lv_iconst (v := zI 2) hx hb dX7_breaks_24 (by decide +kernel) ?_
      refine zput hx hb inlX7 tyX7 tyX7_ok nmX7 rfl 39 rfl zk_t4_152 rfl hts hown hK hH hk_mo h_mo rfl rfl rfl dX7_breaks_25 (fun σ18 Hσ18 lσ18 h_mo hn hH => ?_)
      have h_mo : σ18 19 = oC_mo ad mo_fields mo_bound mo_points mo_crossings mo_isKnown mo_commands mo_needleX mo_needleY mo_hasFile mo_format mo_length mo_heads mo_late mo_ran mo_program 2 mo_rowY mo_stitches := h_mo
      have h_mo_brokenAt := (hn 42 (by decide)).trans h_mo_brokenAt
      have hbg : ∀ i : Nat, i ≠ 19 → i ≠ 42 → σ18 i = σ0 i := fun i a0 a1 => (hn i a0).trans (hbg i a0 a1)
      cases hf
      exact zretv hx hb hr hlocks hQ hH ⟨h_mo, h_mo_brokenAt, hbg⟩ dX7_breaks_28
  · replace hf := (if_pos c11).symm.trans hf
    cases hf
    exact zretv hx hb hr hlocks hQ hH ⟨h_mo, h_mo_brokenAt, hbg⟩ dX7_breaks_12
abbrev rmX7_mend : Room := { frames := 2, cells := 0, slots := 0, locals := 43 }
theorem hd_X7_mend : yX7_mend.cls = RX7 ∧ yX7_mend.cls ≠ "java/lang/invoke/MethodHandle" ∧ yX7_mend.cls ≠ "java/lang/invoke/VarHandle" ∧ (parseMethodDescriptor yX7_mend.desc).map (fun d => d.parameters.length) = some 1 := by decide +kernel
set_option maxHeartbeats 4000000 in
set_option maxRecDepth 100000 in
theorem c_X7_mend {l : Launch} {D : va_G} {cI cZ cF cL cD : ClassId} {ad : Nat → Nat} {N : Nat} (hI : ∀ i j, i < N → j < N → ad i = ad j → i = j) (hN : 46 ≤ N) {σ0 : Nat → va_E} {sz : Nat} {mo_fields : Int} {mo_bound : Int} {mo_points : Int} {mo_crossings : Int} {mo_isKnown : Int} {mo_commands : Int} {mo_needleX : Int} {mo_needleY : Int} {mo_hasFile : Int} {mo_format : Int} {mo_length : Int} {mo_heads : Int} {mo_late : Int} {mo_ran : Int} {mo_program : Int} {mo_kinds : Int → Int} {mo_brokenAt : Int → Int} {mo_sewn : Int → Int} {mo_thrown : Int} {mo_rowY : Int} {mo_stitches : Int} {p1 : Int} {R0 : Int} {R_mo_brokenAt : Int → Int} {R_mo_sewn : Int → Int} {R_mo_thrown : Int} (h_mo : σ0 19 = oC_mo ad mo_fields mo_bound mo_points mo_crossings mo_isKnown mo_commands mo_needleX mo_needleY mo_hasFile mo_format mo_length mo_heads mo_late mo_ran mo_program mo_thrown mo_rowY mo_stitches) (h_mo_kinds : σ0 41 = .inl (cI, 20000, .inl (zA mo_kinds))) (h_mo_brokenAt : σ0 42 = .inl (cI, 4, .inl (zA mo_brokenAt))) (h_mo_sewn : σ0 43 = .inl (cI, 4, .inl (zA mo_sewn))) (hf : f_X7_mend mo_heads mo_late mo_ran mo_program mo_kinds mo_brokenAt mo_sewn mo_thrown p1 = some (R0, R_mo_brokenAt, R_mo_sewn, R_mo_thrown)) :
    Met l yX7_mend (Cond.code yX7_mend cX7_mend 4 (some .int) :: wsL_law) rmX7_mend (zPre D ad N (zT cI cZ cF cL cD) σ0 sz [.ref (ad 19), .int (zI p1)]) (zQi D ad N sz (fun r σ' => r = zI R0 ∧ σ' 19 = oC_mo ad mo_fields mo_bound mo_points mo_crossings mo_isKnown mo_commands mo_needleX mo_needleY mo_hasFile mo_format mo_length mo_heads mo_late mo_ran mo_program R_mo_thrown mo_rowY mo_stitches ∧ σ' 42 = .inl (cI, 4, .inl (zA R_mo_brokenAt)) ∧ σ' 43 = .inl (cI, 4, .inl (zA R_mo_sewn)) ∧ ∀ i : Nat, i ≠ 19 → i ≠ 42 → i ≠ 43 → σ' i = σ0 i)) 0 0 (zFr ad N sz) := by
  refine zMet hI (plainFor_of_name (by decide)) (Nat.le_of_ble_eq_true rfl) ⟨rfl, rfl⟩ ?_
  intro p e s m args below meth c Q hx hb hr hlocks hml hown hts hK hsz hQ hH hA ls hl
  subst hsz
  have hk_mo : 19 < N := by omega
  have hk_mo_kinds : 41 < N := by omega
  have hk_mo_brokenAt : 42 < N := by omega
  have hk_mo_sewn : 43 < N := by omega
  have hl : lv_has ls 4 [(0, .ref (ad 19)), (1, .int (zI p1))] := hl
  have hbg : ∀ i : Nat, i ≠ 19 → i ≠ 42 → i ≠ 43 → σ0 i = σ0 i := fun _ _ _ _ => rfl
  have L43 : ∀ (mo_brokenAt : Int → Int) (mo_sewn : Int → Int) (mo_thrown : Int) (x1 : Int)  (n : Nat) (x2 : Int) (x3 : Int) (x2' : Int) (x3' : Int), zlp (fun z => f_X7_mend_L43 mo_heads mo_late mo_ran mo_program mo_kinds mo_brokenAt mo_sewn mo_thrown x1 z.1 z.2) n (x2, x3) = some (x2', x3') → ∀ (σ : Nat → va_E) (H : Heap) (locs : List Loc) (hH : zH D ad N (zFr ad N s.heap.size) s.heap σ H locs) (h_mo : σ 19 = oC_mo ad mo_fields mo_bound mo_points mo_crossings mo_isKnown mo_commands mo_needleX mo_needleY mo_hasFile mo_format mo_length mo_heads mo_late mo_ran mo_program mo_thrown mo_rowY mo_stitches) (h_mo_kinds : σ 41 = .inl (cI, 20000, .inl (zA mo_kinds))) (h_mo_brokenAt : σ 42 = .inl (cI, 4, .inl (zA mo_brokenAt))) (h_mo_sewn : σ 43 = .inl (cI, 4, .inl (zA mo_sewn))) (hbg : ∀ i : Nat, i ≠ 19 → i ≠ 42 → i ≠ 43 → σ i = σ0 i) (ls : Array Slot) (hl : lv_has ls 4 [(0, .ref (ad 19)), (1, .int (zI x1)), (2, .int (zI x2)), (3, .int (zI x3))]), (∀ (σ : Nat → va_E) (H : Heap) (locs : List Loc) (hH : zH D ad N (zFr ad N s.heap.size) s.heap σ H locs) (h_mo : σ 19 = oC_mo ad mo_fields mo_bound mo_points mo_crossings mo_isKnown mo_commands mo_needleX mo_needleY mo_hasFile mo_format mo_length mo_heads mo_late mo_ran mo_program mo_thrown mo_rowY mo_stitches) (h_mo_kinds : σ 41 = .inl (cI, 20000, .inl (zA mo_kinds))) (h_mo_brokenAt : σ 42 = .inl (cI, 4, .inl (zA mo_brokenAt))) (h_mo_sewn : σ 43 = .inl (cI, 4, .inl (zA mo_sewn))) (hbg : ∀ i : Nat, i ≠ 19 → i ≠ 42 → i ≠ 43 → σ i = σ0 i) (ls : Array Slot) (hl : lv_has ls 4 [(0, .ref (ad 19)), (1, .int (zI x1)), (2, .int (zI (x2')))]), W p l e rmX7_mend s m args below meth c H locs 0 0 Q (F0 m 74 ls [])) → W p l e rmX7_mend s m args below meth c H locs 0 0 Q (F0 m 43 ls []) := by
    intro mo_brokenAt mo_sewn mo_thrown x1 n
    induction n with
    | zero => intro x2 x3 x2' x3' hz; exact (zlp_0 hz).elim
    | succ n ih =>
      intro x2 x3 x2' x3' hz σ H locs hH h_mo h_mo_kinds h_mo_brokenAt h_mo_sewn hbg ls hl kx
      obtain ⟨nx, hf, hnx⟩ := zlp_some hz
      have hf : f_X7_mend_L43 mo_heads mo_late mo_ran mo_program mo_kinds mo_brokenAt mo_sewn mo_thrown x1 x2 x3 = some nx := hf
      unfold f_X7_mend_L43 at hf
      refine lv_iload_n hx hb dX7_mend_43 rfl (lv_at hl 3 rfl) ?_
      refine lv_aload_n hx hb dX7_mend_44 rfl (lv_at hl 0 rfl) ?_
      refine zget hx hb inlX7 rfl 34 rfl zk_t4_147 hts hown hK hH hk_mo h_mo rfl dX7_mend_45 ?_
      obtain ⟨k1, hf⟩ := zck_some hf
      refine lz_icmp_ge (tgt := 74) hx hb k1 dX7_mend_48 (by decide) (fun c2 => ?_) (fun c2 => ?_)
      · replace hf := (if_pos c2).symm.trans hf
        cases hf
        cases hnx
        exact kx _ _ _ hH h_mo h_mo_kinds h_mo_brokenAt h_mo_sewn hbg _ (lv_sub hl [0, 1, 2] rfl)
      · replace hf := (if_neg c2).symm.trans hf
        refine lv_iload_n hx hb dX7_mend_51 rfl (lv_at hl 2 rfl) ?_
        refine lv_aload_n hx hb dX7_mend_52 rfl (lv_at hl 0 rfl) ?_
        refine zget hx hb inlX7 rfl 36 rfl zk_t4_149 hts hown hK hH hk_mo h_mo rfl dX7_mend_53 ?_
        refine lv_iload_n hx hb dX7_mend_56 rfl (lv_at hl 3 rfl) ?_
        obtain ⟨k3, hf⟩ := zck_some hf
        refine ziald hx hb hK hH hk_mo_kinds 0 h_mo_kinds rfl k3 rfl dX7_mend_57 ?_
        obtain ⟨k4, hf⟩ := zck_some hf
        refine lz_if_ne (tgt := 65) hx hb k4 dX7_mend_58 (by decide) (fun c5 => ?_) (fun c5 => ?_)
        · replace hf := (if_neg c5).symm.trans hf
          refine lv_iconst (v := zI 0) hx hb dX7_mend_65 (by decide +kernel) ?_
          refine lz_iadd hx hb dX7_mend_66 ?_
          obtain ⟨v6, ev6, hf⟩ := zlt_some hf
          refine lz_nm ev6 ?_
          refine lv_istore_n (lv' := [(2, .int (zI v6)), (0, .ref (ad 19)), (1, .int (zI x1)), (3, .int (zI x3))]) hx hb dX7_mend_67 rfl hl (by decide) rfl (fun ls hl => ?_)
          refine lz_iinc (lv' := [(3, .int (zI (x3 + 1))), (2, .int (zI v6)), (0, .ref (ad 19)), (1, .int (zI x1))]) hx hb dX7_mend_68 hl (j := 3) rfl (by decide) rfl (fun ls hl => ?_)
          refine lv_goto (tgt := 43) hx hb dX7_mend_71 (by decide) ?_
          cases hf
          exact ih v6 (x3 + 1) _ _ hnx _ _ _ hH h_mo h_mo_kinds h_mo_brokenAt h_mo_sewn hbg _ (lv_sub hl [2, 3, 1, 0] rfl) kx
        · replace hf := (if_pos c5).symm.trans hf
          refine lv_iconst (v := zI 1) hx hb dX7_mend_61 (by decide +kernel) ?_
          refine lv_goto (tgt := 66) hx hb dX7_mend_62 (by decide) ?_
          refine lz_iadd hx hb dX7_mend_66 ?_
          obtain ⟨v7, ev7, hf⟩ := zlt_some hf
          refine lz_nm ev7 ?_
          refine lv_istore_n (lv' := [(2, .int (zI v7)), (0, .ref (ad 19)), (1, .int (zI x1)), (3, .int (zI x3))]) hx hb dX7_mend_67 rfl hl (by decide) rfl (fun ls hl => ?_)
          refine lz_iinc (lv' := [(3, .int (zI (x3 + 1))), (2, .int (zI v7)), (0, .ref (ad 19)), (1, .int (zI x1))]) hx hb dX7_mend_68 hl (j := 3) rfl (by decide) rfl (fun ls hl => ?_)
          refine lv_goto (tgt := 43) hx hb dX7_mend_71 (by decide) ?_
          cases hf
          exact ih v7 (x3 + 1) _ _ hnx _ _ _ hH h_mo h_mo_kinds h_mo_brokenAt h_mo_sewn hbg _ (lv_sub hl [2, 3, 1, 0] rfl) kx
  unfold f_X7_mend at hf
  refine lv_aload_n hx hb dX7_mend_0 rfl (lv_at hl 0 rfl) ?_
  refine lv_aload_n hx hb dX7_mend_1 rfl (lv_at hl 0 rfl) ?_
  refine lv_iload_n hx hb dX7_mend_2 rfl (lv_at hl 1 rfl) ?_
  obtain ⟨r8, k9, hf⟩ := zb1_some hf
  refine zcVi (C := RX7) (As := [.int (zI p1)]) (rest := [.ref (ad 19)]) hx hb hml hown hts hl.1 hK hH hA (c_X7_isHead hI hN  h_mo k9) zk_t5_217 zk_t5_219 zk_s4_6 zk_t1_6 zk_t5_220 hd_X7_isHead rfl ⟨rfl, rfl, Nat.le_of_ble_eq_true rfl, Nat.le_of_ble_eq_true rfl⟩ ⟨Nat.zero_le _, Nat.zero_le _⟩ hk_mo h_mo rfl rfl rfl (Nat.le_of_ble_eq_true rfl) dX7_mend_3 (fun q11 σ10 Hσ10 lσ10 hp hH => ?_)
  obtain ⟨hr1, hs1⟩ := hp; subst hr1; rw [hs1] at hH
  obtain ⟨r12, u13, k14, hf⟩ := zb2_some hf
  refine zcVi (C := RX7) (As := [.int (zI r8)]) (rest := []) hx hb hml hown hts hl.1 hK hH hA (c_X7_asks hI hN  h_mo k14) zk_t5_11 zk_t5_13 zk_s2_13 zk_t1_6 zk_t5_14 hd_X7_asks rfl ⟨rfl, rfl, Nat.le_of_ble_eq_true rfl, Nat.le_of_ble_eq_true rfl⟩ ⟨Nat.zero_le _, Nat.zero_le _⟩ hk_mo h_mo rfl rfl rfl (Nat.le_of_ble_eq_true rfl) dX7_mend_6 (fun q16 σ15 Hσ15 lσ15 hp hH => ?_)
  obtain ⟨hr1, h_mo, hn⟩ := hp
  subst hr1
  have h_mo_kinds := (hn 41 (by decide)).trans h_mo_kinds
  have h_mo_brokenAt := (hn 42 (by decide)).trans h_mo_brokenAt
  have h_mo_sewn := (hn 43 (by decide)).trans h_mo_sewn
  have hbg : ∀ i : Nat, i ≠ 19 → i ≠ 42 → i ≠ 43 → σ15 i = σ0 i := fun i a0 a1 a2 => (hn i a0).trans (hbg i a0 a1 a2)
  obtain ⟨k17, hf⟩ := zck_some hf
  refine lz_if_ne (tgt := 14) hx hb k17 dX7_mend_9 (by decide) (fun c18 => ?_) (fun c18 => ?_)
  · replace hf := (if_neg c18).symm.trans hf
    refine lv_aload_n hx hb dX7_mend_14 rfl (lv_at hl 0 rfl) ?_
    refine lv_iload_n hx hb dX7_mend_15 rfl (lv_at hl 1 rfl) ?_
    obtain ⟨r19, k20, hf⟩ := zb1_some hf
    refine zcVi (C := RX7) (As := [.int (zI p1)]) (rest := []) hx hb hml hown hts hl.1 hK hH hA (c_X7_isSeen hI hN  h_mo h_mo_brokenAt k20) zk_t5_209 zk_t5_211 zk_s4_5 zk_t1_6 zk_t5_212 hd_X7_isSeen rfl ⟨rfl, rfl, Nat.le_of_ble_eq_true rfl, Nat.le_of_ble_eq_true rfl⟩ ⟨Nat.zero_le _, Nat.zero_le _⟩ hk_mo h_mo rfl rfl rfl (Nat.le_of_ble_eq_true rfl) dX7_mend_16 (fun q22 σ21 Hσ21 lσ21 hp hH => ?_)
    obtain ⟨hr1, hs1⟩ := hp; subst hr1; rw [hs1] at hH
    obtain ⟨k23, hf⟩ := zck_some hf
    refine lz_if_ne (tgt := 28) hx hb k23 dX7_mend_19 (by decide) (fun c24 => ?_) (fun c24 => ?_)
    · replace hf := (if_neg c24).symm.trans hf
      refine lv_iconst (v := zI 0) hx hb dX7_mend_28 (by decide +kernel) ?_
      refine lv_istore_n (lv' := [(2, .int (zI 0)), (0, .ref (ad 19)), (1, .int (zI p1))]) hx hb dX7_mend_29 rfl hl (by decide) rfl (fun ls hl => ?_)
      refine lv_iconst (v := zI 0) hx hb dX7_mend_30 (by decide +kernel) ?_
      refine lv_aload_n hx hb dX7_mend_31 rfl (lv_at hl 1 rfl) ?_
      refine zget hx hb inlX7 rfl 37 rfl zk_t4_150 hts hown hK hH hk_mo h_mo rfl dX7_mend_32 ?_
      refine lv_iload_n hx hb dX7_mend_35 rfl (lv_at hl 2 rfl) ?_
      obtain ⟨k25, hf⟩ := zck_some hf
      refine ziald hx hb hK hH hk_mo_brokenAt 0 h_mo_brokenAt rfl k25 rfl dX7_mend_36 ?_
      refine lv_iconst (v := zI 3) hx hb dX7_mend_37 (by decide +kernel) ?_
      refine lz_isub hx hb dX7_mend_38 ?_
      obtain ⟨r26, k27, hf⟩ := zb1_some hf
      refine zcSi (As := [.int (zI 0), .int (zI ((mo_brokenAt p1) - 3))]) (rest := []) hx hb hml hown hts hl.1 hK hH hA (c_X7_greater hI hN   k27) zk_t5_62 zk_t5_63 zk_t1_6 zk_t5_64 hd_X7_greater rfl ⟨rfl, rfl, Nat.le_of_ble_eq_true rfl, Nat.le_of_ble_eq_true rfl⟩ ⟨Nat.zero_le _, Nat.zero_le _⟩ rfl (Nat.le_of_ble_eq_true rfl) dX7_mend_39 (fun q29 σ28 Hσ28 lσ28 hp hH => ?_)
      obtain ⟨hr1, hs1⟩ := hp; subst hr1; rw [hs1] at hH
      refine lv_istore_n (lv' := [(3, .int (zI r26)), (2, .int (zI 0)), (0, .ref (ad 19)), (1, .int (zI p1))]) hx hb dX7_mend_42 rfl hl (by decide) rfl (fun ls hl => ?_)
      obtain ⟨w31, w32, k30, hf⟩ := zb2_some hf
      refine L43 mo_brokenAt mo_sewn u13 p1 zFU 0 r26 w31 w32 k30 _ _ _ hH h_mo h_mo_kinds h_mo_brokenAt h_mo_sewn hbg _ (lv_sub hl [2, 3, 1, 0] rfl) (fun σ33 Hσ33 lσ33 hH h_mo h_mo_kinds h_mo_brokenAt h_mo_sewn hbg ls hl => ?_)
      refine lv_aload_n hx hb dX7_mend_74 rfl (lv_at hl 0 rfl) ?_
      refine zget hx hb inlX7 rfl 37 rfl zk_t4_150 hts hown hK hH hk_mo h_mo rfl dX7_mend_75 ?_
      refine lv_iload_n hx hb dX7_mend_78 rfl (lv_at hl 1 rfl) ?_
      refine lv_iconst (v := zI (-1)) hx hb dX7_mend_79 (by decide +kernel) ?_
      obtain ⟨k34, hf⟩ := zck_some hf
      obtain ⟨a36, ea36, hf⟩ := zlt_some hf
      refine ziast hx hb hK hH hk_mo_brokenAt 0 h_mo_brokenAt rfl k34 rfl dX7_mend_80 (fun σ35 Hσ35 lσ35 h_mo_brokenAt hn hH => ?_)
      rw [← ea36] at h_mo_brokenAt
      have h_mo := (hn 19 (by decide)).trans h_mo
      have h_mo_kinds := (hn 41 (by decide)).trans h_mo_kinds
      have h_mo_sewn := (hn 43 (by decide)).trans h_mo_sewn
      have hbg : ∀ i : Nat, i ≠ 19 → i ≠ 42 → i ≠ 43 → σ35 i = σ0 i := fun i a0 a1 a2 => (hn i a1).trans (hbg i a0 a1 a2)
      refine lv_aload_n hx hb dX7_mend_81 rfl (lv_at hl 0 rfl) ?_
      refine zget hx hb inlX7 rfl 38 rfl zk_t4_151 hts hown hK hH hk_mo h_mo rfl dX7_mend_82 ?_
      refine lv_iload_n hx hb dX7_mend_85 rfl (lv_at hl 1 rfl) ?_
      refine lv_dup2_11 hx hb dX7_mend_86 rfl rfl ?_
      obtain ⟨k37, hf⟩ := zck_some hf
      refine ziald hx hb hK hH hk_mo_sewn 0 h_mo_sewn rfl k37 rfl dX7_mend_87 ?_
      refine lv_iload_n hx hb dX7_mend_88 rfl (lv_at hl 2 rfl) ?_
      refine lz_iadd hx hb dX7_mend_89 ?_
      obtain ⟨k38, hf⟩ := zck_some hf
      obtain ⟨a40, ea40, hf⟩ := zlt_some hf
      refine ziast hx hb hK hH hk_mo_sewn 0 h_mo_sewn rfl k38 rfl dX7_mend_90 (fun σ39 Hσ39 lσ39 h_mo_sewn hn hH => ?_)
      rw [← ea40] at h_mo_sewn
      have h_mo := (hn 19 (by decide)).trans h_mo
      have h_mo_kinds := (hn 41 (by decide)).trans h_mo_kinds
      have h_mo_brokenAt := (hn 42 (by decide)).trans h_mo_brokenAt
      have hbg : ∀ i : Nat, i ≠ 19 → i ≠ 42 → i ≠ 43 → σ39 i = σ0 i := fun i a0 a1 a2 => (hn i a2).trans (hbg i a0 a1 a2)
      refine lv_iload_n hx hb dX7_mend_91 rfl (lv_at hl 2 rfl) ?_
      cases hf
      exact zreti hx hb hr hlocks hQ hH ⟨rfl, h_mo, h_mo_brokenAt, h_mo_sewn, hbg⟩ dX7_mend_92
    · replace hf := (if_pos c24).symm.trans hf
      refine lv_aload_n hx hb dX7_mend_22 rfl (lv_at hl 0 rfl) ?_
      refine lv_iconst (v := zI 2) hx hb dX7_mend_23 (by decide +kernel) ?_
      obtain ⟨r41, u42, k43, hf⟩ := zb2_some hf
      refine zcVi (C := RX7) (As := [.int (zI 2)]) (rest := []) hx hb hml hown hts hl.1 hK hH hA (c_X7_fails hI hN  h_mo k43) zk_t5_15 zk_t5_17 zk_s2_14 zk_t1_6 zk_t5_18 hd_X7_fails rfl ⟨rfl, rfl, Nat.le_of_ble_eq_true rfl, Nat.le_of_ble_eq_true rfl⟩ ⟨Nat.zero_le _, Nat.zero_le _⟩ hk_mo h_mo rfl rfl rfl (Nat.le_of_ble_eq_true rfl) dX7_mend_24 (fun q45 σ44 Hσ44 lσ44 hp hH => ?_)
      obtain ⟨hr1, h_mo, hn⟩ := hp
      subst hr1
      have h_mo_kinds := (hn 41 (by decide)).trans h_mo_kinds
      have h_mo_brokenAt := (hn 42 (by decide)).trans h_mo_brokenAt
      have h_mo_sewn := (hn 43 (by decide)).trans h_mo_sewn
      have hbg : ∀ i : Nat, i ≠ 19 → i ≠ 42 → i ≠ 43 → σ44 i = σ0 i := fun i a0 a1 a2 => (hn i a0).trans (hbg i a0 a1 a2)
      cases hf
      exact zreti hx hb hr hlocks hQ hH ⟨rfl, h_mo, h_mo_brokenAt, h_mo_sewn, hbg⟩ dX7_mend_27
  · replace hf := (if_pos c18).symm.trans hf
    refine lv_iconst (v := zI 0) hx hb dX7_mend_12 (by decide +kernel) ?_
    cases hf
    exact zreti hx hb hr hlocks hQ hH ⟨rfl, h_mo, h_mo_brokenAt, h_mo_sewn, hbg⟩ dX7_mend_13
abbrev rmX7_sewn : Room := { frames := 2, cells := 0, slots := 0, locals := 43 }
theorem hd_X7_sewn : yX7_sewn.cls = RX7 ∧ yX7_sewn.cls ≠ "java/lang/invoke/MethodHandle" ∧ yX7_sewn.cls ≠ "java/lang/invoke/VarHandle" ∧ (parseMethodDescriptor yX7_sewn.desc).map (fun d => d.parameters.length) = some 1 := by decide +kernel
set_option maxHeartbeats 4000000 in
set_option maxRecDepth 100000 in
theorem c_X7_sewn {l : Launch} {D : va_G} {cI cZ cF cL cD : ClassId} {ad : Nat → Nat} {N : Nat} (hI : ∀ i j, i < N → j < N → ad i = ad j → i = j) (hN : 46 ≤ N) {σ0 : Nat → va_E} {sz : Nat} {mo_fields : Int} {mo_bound : Int} {mo_points : Int} {mo_crossings : Int} {mo_isKnown : Int} {mo_commands : Int} {mo_needleX : Int} {mo_needleY : Int} {mo_hasFile : Int} {mo_format : Int} {mo_length : Int} {mo_heads : Int} {mo_late : Int} {mo_ran : Int} {mo_program : Int} {mo_sewn : Int → Int} {mo_thrown : Int} {mo_rowY : Int} {mo_stitches : Int} {p1 : Int} {R0 : Int} {R_mo_thrown : Int} (h_mo : σ0 19 = oC_mo ad mo_fields mo_bound mo_points mo_crossings mo_isKnown mo_commands mo_needleX mo_needleY mo_hasFile mo_format mo_length mo_heads mo_late mo_ran mo_program mo_thrown mo_rowY mo_stitches) (h_mo_sewn : σ0 43 = .inl (cI, 4, .inl (zA mo_sewn))) (hf : f_X7_sewn mo_heads mo_sewn mo_thrown p1 = some (R0, R_mo_thrown)) :
    Met l yX7_sewn (Cond.code yX7_sewn cX7_sewn 2 (some .int) :: wsL_law) rmX7_sewn (zPre D ad N (zT cI cZ cF cL cD) σ0 sz [.ref (ad 19), .int (zI p1)]) (zQi D ad N sz (fun r σ' => r = zI R0 ∧ σ' 19 = oC_mo ad mo_fields mo_bound mo_points mo_crossings mo_isKnown mo_commands mo_needleX mo_needleY mo_hasFile mo_format mo_length mo_heads mo_late mo_ran mo_program R_mo_thrown mo_rowY mo_stitches ∧ ∀ i : Nat, i ≠ 19 → σ' i = σ0 i)) 0 0 (zFr ad N sz) := by
  refine zMet hI (plainFor_of_name (by decide)) (Nat.le_of_ble_eq_true rfl) ⟨rfl, rfl⟩ ?_
  intro p e s m args below meth c Q hx hb hr hlocks hml hown hts hK hsz hQ hH hA ls hl
  subst hsz
  have hk_mo : 19 < N := by omega
  have hk_mo_sewn : 43 < N := by omega
  have hl : lv_has ls 2 [(0, .ref (ad 19)), (1, .int (zI p1))] := hl
  have hbg : ∀ i : Nat, i ≠ 19 → σ0 i = σ0 i := fun _ _ => rfl
  unfold f_X7_sewn at hf
  refine lv_aload_n hx hb dX7_sewn_0 rfl (lv_at hl 0 rfl) ?_
  refine lv_aload_n hx hb dX7_sewn_1 rfl (lv_at hl 0 rfl) ?_
  refine lv_iload_n hx hb dX7_sewn_2 rfl (lv_at hl 1 rfl) ?_
  obtain ⟨r1, k2, hf⟩ := zb1_some hf
  refine zcVi (C := RX7) (As := [.int (zI p1)]) (rest := [.ref (ad 19)]) hx hb hml hown hts hl.1 hK hH hA (c_X7_isHead hI hN  h_mo k2) zk_t5_217 zk_t5_219 zk_s4_6 zk_t1_6 zk_t5_220 hd_X7_isHead rfl ⟨rfl, rfl, Nat.le_of_ble_eq_true rfl, Nat.le_of_ble_eq_true rfl⟩ ⟨Nat.zero_le _, Nat.zero_le _⟩ hk_mo h_mo rfl rfl rfl (Nat.le_of_ble_eq_true rfl) dX7_sewn_3 (fun q4 σ3 Hσ3 lσ3 hp hH => ?_)
  obtain ⟨hr1, hs1⟩ := hp; subst hr1; rw [hs1] at hH
  obtain ⟨r5, u6, k7, hf⟩ := zb2_some hf
  refine zcVi (C := RX7) (As := [.int (zI r1)]) (rest := []) hx hb hml hown hts hl.1 hK hH hA (c_X7_asks hI hN  h_mo k7) zk_t5_11 zk_t5_13 zk_s2_13 zk_t1_6 zk_t5_14 hd_X7_asks rfl ⟨rfl, rfl, Nat.le_of_ble_eq_true rfl, Nat.le_of_ble_eq_true rfl⟩ ⟨Nat.zero_le _, Nat.zero_le _⟩ hk_mo h_mo rfl rfl rfl (Nat.le_of_ble_eq_true rfl) dX7_sewn_6 (fun q9 σ8 Hσ8 lσ8 hp hH => ?_)
  obtain ⟨hr1, h_mo, hn⟩ := hp
  subst hr1
  have h_mo_sewn := (hn 43 (by decide)).trans h_mo_sewn
  have hbg : ∀ i : Nat, i ≠ 19 → σ8 i = σ0 i := fun i a0 => (hn i a0).trans (hbg i a0)
  obtain ⟨k10, hf⟩ := zck_some hf
  refine lz_if_eq (tgt := 21) hx hb k10 dX7_sewn_9 (by decide) (fun c11 => ?_) (fun c11 => ?_)
  · replace hf := (if_pos c11).symm.trans hf
    refine lv_iconst (v := zI 0) hx hb dX7_sewn_21 (by decide +kernel) ?_
    cases hf
    exact zreti hx hb hr hlocks hQ hH ⟨rfl, h_mo, hbg⟩ dX7_sewn_22
  · replace hf := (if_neg c11).symm.trans hf
    refine lv_aload_n hx hb dX7_sewn_12 rfl (lv_at hl 0 rfl) ?_
    refine zget hx hb inlX7 rfl 38 rfl zk_t4_151 hts hown hK hH hk_mo h_mo rfl dX7_sewn_13 ?_
    refine lv_iload_n hx hb dX7_sewn_16 rfl (lv_at hl 1 rfl) ?_
    obtain ⟨k12, hf⟩ := zck_some hf
    refine ziald hx hb hK hH hk_mo_sewn 0 h_mo_sewn rfl k12 rfl dX7_sewn_17 ?_
    refine lv_goto (tgt := 22) hx hb dX7_sewn_18 (by decide) ?_
    cases hf
    exact zreti hx hb hr hlocks hQ hH ⟨rfl, h_mo, hbg⟩ dX7_sewn_22
