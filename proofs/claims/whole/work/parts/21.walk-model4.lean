abbrev rmX7_writes : Room := { frames := 0, cells := 0, slots := 0, locals := 0 }
theorem hd_X7_writes : yX7_writes.cls = RX7 ∧ yX7_writes.cls ≠ "java/lang/invoke/MethodHandle" ∧ yX7_writes.cls ≠ "java/lang/invoke/VarHandle" ∧ (parseMethodDescriptor yX7_writes.desc).map (fun d => d.parameters.length) = some 3 := by decide +kernel
set_option maxHeartbeats 4000000 in
set_option maxRecDepth 100000 in
theorem c_X7_writes {l : Launch} {D : va_G} {cI cZ cF cL cD : ClassId} {ad : Nat → Nat} {N : Nat} (hI : ∀ i j, i < N → j < N → ad i = ad j → i = j) (hN : 46 ≤ N) {σ0 : Nat → va_E} {sz : Nat} {mo_fields : Int} {mo_bound : Int} {mo_points : Int} {mo_crossings : Int} {mo_isKnown : Int} {mo_commands : Int} {mo_needleX : Int} {mo_needleY : Int} {mo_hasFile : Int} {mo_format : Int} {mo_length : Int} {mo_bytes : Int → Int} {mo_heads : Int} {mo_late : Int} {mo_ran : Int} {mo_program : Int} {mo_thrown : Int} {mo_rowY : Int} {mo_stitches : Int} {p1 : Int} {p2 : Int} {p3 : Int} {R_mo_length : Int} {R_mo_bytes : Int → Int} (h_mo : σ0 19 = oC_mo ad mo_fields mo_bound mo_points mo_crossings mo_isKnown mo_commands mo_needleX mo_needleY mo_hasFile mo_format mo_length mo_heads mo_late mo_ran mo_program mo_thrown mo_rowY mo_stitches) (h_mo_bytes : σ0 40 = .inl (cI, 70000, .inl (zA mo_bytes))) (hf : f_X7_writes mo_format mo_length mo_bytes p1 p2 p3 = some (R_mo_length, R_mo_bytes)) :
    Met l yX7_writes (Cond.code yX7_writes cX7_writes 4 none :: wsL_law) rmX7_writes (zPre D ad N (zT cI cZ cF cL cD) σ0 sz [.ref (ad 19), .int (zI p1), .int (zI p2), .int (zI p3)]) (zQv D ad N sz (fun σ' => σ' 19 = oC_mo ad mo_fields mo_bound mo_points mo_crossings mo_isKnown mo_commands mo_needleX mo_needleY mo_hasFile mo_format R_mo_length mo_heads mo_late mo_ran mo_program mo_thrown mo_rowY mo_stitches ∧ σ' 40 = .inl (cI, 70000, .inl (zA R_mo_bytes)) ∧ ∀ i : Nat, i ≠ 19 → i ≠ 40 → σ' i = σ0 i)) 0 0 (zFr ad N sz) := by
  refine zMet hI (plainFor_of_name (by decide)) (Nat.le_of_ble_eq_true rfl) ⟨rfl, rfl⟩ ?_
  intro p e s m args below meth c Q hx hb hr hlocks hml hown hts hK hsz hQ hH hA ls hl
  subst hsz
  have hk_mo : 19 < N := by omega
  have hk_mo_bytes : 40 < N := by omega
  have hl : lv_has ls 4 [(0, .ref (ad 19)), (1, .int (zI p1)), (2, .int (zI p2)), (3, .int (zI p3))] := hl
  have hbg : ∀ i : Nat, i ≠ 19 → i ≠ 40 → σ0 i = σ0 i := fun _ _ _ => rfl
  unfold f_X7_writes at hf
  refine lv_aload_n hx hb dX7_writes_0 rfl (lv_at hl 0 rfl) ?_
  refine zget hx hb inlX7 rfl 29 rfl zk_t4_142 hts hown hK hH hk_mo h_mo rfl dX7_writes_1 ?_
  obtain ⟨k1, hf⟩ := zck_some hf
  refine lz_if_ne (tgt := 53) hx hb k1 dX7_writes_4 (by decide) (fun c2 => ?_) (fun c2 => ?_)
  · replace hf := (if_neg c2).symm.trans hf
    refine lv_aload_n hx hb dX7_writes_53 rfl (lv_at hl 0 rfl) ?_
    refine zget hx hb inlX7 rfl 31 rfl zk_t4_144 hts hown hK hH hk_mo h_mo rfl dX7_writes_54 ?_
    refine lv_aload_n hx hb dX7_writes_57 rfl (lv_at hl 0 rfl) ?_
    refine zget hx hb inlX7 rfl 30 rfl zk_t4_143 hts hown hK hH hk_mo h_mo rfl dX7_writes_58 ?_
    refine lv_iload_n hx hb dX7_writes_61 rfl (lv_at hl 1 rfl) ?_
    obtain ⟨k3, hf⟩ := zck_some hf
    obtain ⟨a5, ea5, hf⟩ := zlt_some hf
    refine ziast hx hb hK hH hk_mo_bytes 0 h_mo_bytes rfl k3 rfl dX7_writes_62 (fun σ4 Hσ4 lσ4 h_mo_bytes hn hH => ?_)
    rw [← ea5] at h_mo_bytes
    have h_mo := (hn 19 (by decide)).trans h_mo
    have hbg : ∀ i : Nat, i ≠ 19 → i ≠ 40 → σ4 i = σ0 i := fun i a0 a1 => (hn i a1).trans (hbg i a0 a1)
    refine lv_aload_n hx hb dX7_writes_63 rfl (lv_at hl 0 rfl) ?_
    refine zget hx hb inlX7 rfl 31 rfl zk_t4_144 hts hown hK hH hk_mo h_mo rfl dX7_writes_64 ?_
    refine lv_aload_n hx hb dX7_writes_67 rfl (lv_at hl 0 rfl) ?_
    refine zget hx hb inlX7 rfl 30 rfl zk_t4_143 hts hown hK hH hk_mo h_mo rfl dX7_writes_68 ?_
    refine lv_iconst (v := zI 1) hx hb dX7_writes_71 (by decide +kernel) ?_
    refine lz_iadd hx hb dX7_writes_72 ?_
    refine lv_iload_n hx hb dX7_writes_73 rfl (lv_at hl 2 rfl) ?_
    refine lv_sipush (v := zI 128) hx hb dX7_writes_74 (by decide +kernel) ?_
    refine lz_iadd hx hb dX7_writes_77 ?_
    obtain ⟨k6, hf⟩ := zck_some hf
    obtain ⟨a8, ea8, hf⟩ := zlt_some hf
    refine ziast hx hb hK hH hk_mo_bytes 0 h_mo_bytes rfl k6 rfl dX7_writes_78 (fun σ7 Hσ7 lσ7 h_mo_bytes hn hH => ?_)
    rw [← ea8] at h_mo_bytes
    have h_mo := (hn 19 (by decide)).trans h_mo
    have hbg : ∀ i : Nat, i ≠ 19 → i ≠ 40 → σ7 i = σ0 i := fun i a0 a1 => (hn i a1).trans (hbg i a0 a1)
    refine lv_aload_n hx hb dX7_writes_79 rfl (lv_at hl 0 rfl) ?_
    refine zget hx hb inlX7 rfl 31 rfl zk_t4_144 hts hown hK hH hk_mo h_mo rfl dX7_writes_80 ?_
    refine lv_aload_n hx hb dX7_writes_83 rfl (lv_at hl 0 rfl) ?_
    refine zget hx hb inlX7 rfl 30 rfl zk_t4_143 hts hown hK hH hk_mo h_mo rfl dX7_writes_84 ?_
    refine lv_iconst (v := zI 2) hx hb dX7_writes_87 (by decide +kernel) ?_
    refine lz_iadd hx hb dX7_writes_88 ?_
    refine lv_iload_n hx hb dX7_writes_89 rfl (lv_at hl 3 rfl) ?_
    refine lv_sipush (v := zI 128) hx hb dX7_writes_90 (by decide +kernel) ?_
    refine lz_iadd hx hb dX7_writes_93 ?_
    obtain ⟨k9, hf⟩ := zck_some hf
    obtain ⟨a11, ea11, hf⟩ := zlt_some hf
    refine ziast hx hb hK hH hk_mo_bytes 0 h_mo_bytes rfl k9 rfl dX7_writes_94 (fun σ10 Hσ10 lσ10 h_mo_bytes hn hH => ?_)
    rw [← ea11] at h_mo_bytes
    have h_mo := (hn 19 (by decide)).trans h_mo
    have hbg : ∀ i : Nat, i ≠ 19 → i ≠ 40 → σ10 i = σ0 i := fun i a0 a1 => (hn i a1).trans (hbg i a0 a1)
    refine lv_aload_n hx hb dX7_writes_95 rfl (lv_at hl 0 rfl) ?_
    refine lv_dup hx hb dX7_writes_96 rfl ?_
    refine zget hx hb inlX7 rfl 30 rfl zk_t4_143 hts hown hK hH hk_mo h_mo rfl dX7_writes_97 ?_
    refine lv_iconst (v := zI 3) hx hb dX7_writes_100 (by decide +kernel) ?_
    refine lz_iadd hx hb dX7_writes_101 ?_
    obtain ⟨v12, ev12, hf⟩ := zlt_some hf
    refine lz_nm ev12 ?_
    refine zput hx hb inlX7 tyX7 tyX7_ok nmX7 rfl 30 rfl zk_t4_143 rfl hts hown hK hH hk_mo h_mo rfl rfl rfl dX7_writes_102 (fun σ13 Hσ13 lσ13 h_mo hn hH => ?_)
    have h_mo : σ13 19 = oC_mo ad mo_fields mo_bound mo_points mo_crossings mo_isKnown mo_commands mo_needleX mo_needleY mo_hasFile mo_format v12 mo_heads mo_late mo_ran mo_program mo_thrown mo_rowY mo_stitches := h_mo
    have h_mo_bytes := (hn 40 (by decide)).trans h_mo_bytes
    have hbg : ∀ i : Nat, i ≠ 19 → i ≠ 40 → σ13 i = σ0 i := fun i a0 a1 => (hn i a0).trans (hbg i a0 a1)
    cases hf
    exact zretv hx hb hr hlocks hQ hH ⟨h_mo, h_mo_bytes, hbg⟩ dX7_writes_105
  · replace hf := (if_pos c2).symm.trans hf
    refine lv_aload_n hx hb dX7_writes_7 rfl (lv_at hl 0 rfl) ?_
    refine zget hx hb inlX7 rfl 31 rfl zk_t4_144 hts hown hK hH hk_mo h_mo rfl dX7_writes_8 ?_
    refine lv_aload_n hx hb dX7_writes_11 rfl (lv_at hl 0 rfl) ?_
    refine zget hx hb inlX7 rfl 30 rfl zk_t4_143 hts hown hK hH hk_mo h_mo rfl dX7_writes_12 ?_
    refine lv_bipush (v := zI 32) hx hb dX7_writes_15 (by decide +kernel) ?_
    refine lv_iload_n hx hb dX7_writes_17 rfl (lv_at hl 1 rfl) ?_
    refine lz_imul hx hb dX7_writes_18 ?_
    refine lv_iload_n hx hb dX7_writes_19 rfl (lv_at hl 2 rfl) ?_
    refine lz_iadd hx hb dX7_writes_20 ?_
    refine lv_bipush (v := zI 16) hx hb dX7_writes_21 (by decide +kernel) ?_
    refine lz_iadd hx hb dX7_writes_23 ?_
    obtain ⟨k14, hf⟩ := zck_some hf
    obtain ⟨a16, ea16, hf⟩ := zlt_some hf
    refine ziast hx hb hK hH hk_mo_bytes 0 h_mo_bytes rfl k14 rfl dX7_writes_24 (fun σ15 Hσ15 lσ15 h_mo_bytes hn hH => ?_)
    rw [← ea16] at h_mo_bytes
    have h_mo := (hn 19 (by decide)).trans h_mo
    have hbg : ∀ i : Nat, i ≠ 19 → i ≠ 40 → σ15 i = σ0 i := fun i a0 a1 => (hn i a1).trans (hbg i a0 a1)
    refine lv_aload_n hx hb dX7_writes_25 rfl (lv_at hl 0 rfl) ?_
    refine zget hx hb inlX7 rfl 31 rfl zk_t4_144 hts hown hK hH hk_mo h_mo rfl dX7_writes_26 ?_
    refine lv_aload_n hx hb dX7_writes_29 rfl (lv_at hl 0 rfl) ?_
    refine zget hx hb inlX7 rfl 30 rfl zk_t4_143 hts hown hK hH hk_mo h_mo rfl dX7_writes_30 ?_
    refine lv_iconst (v := zI 1) hx hb dX7_writes_33 (by decide +kernel) ?_
    refine lz_iadd hx hb dX7_writes_34 ?_
    refine lv_iload_n hx hb dX7_writes_35 rfl (lv_at hl 3 rfl) ?_
    refine lv_bipush (v := zI 16) hx hb dX7_writes_36 (by decide +kernel) ?_
    refine lz_iadd hx hb dX7_writes_38 ?_
    obtain ⟨k17, hf⟩ := zck_some hf
    obtain ⟨a19, ea19, hf⟩ := zlt_some hf
    refine ziast hx hb hK hH hk_mo_bytes 0 h_mo_bytes rfl k17 rfl dX7_writes_39 (fun σ18 Hσ18 lσ18 h_mo_bytes hn hH => ?_)
    rw [← ea19] at h_mo_bytes
    have h_mo := (hn 19 (by decide)).trans h_mo
    have hbg : ∀ i : Nat, i ≠ 19 → i ≠ 40 → σ18 i = σ0 i := fun i a0 a1 => (hn i a1).trans (hbg i a0 a1)
    refine lv_aload_n hx hb dX7_writes_40 rfl (lv_at hl 0 rfl) ?_
    refine lv_dup hx hb dX7_writes_41 rfl ?_
    refine zget hx hb inlX7 rfl 30 rfl zk_t4_143 hts hown hK hH hk_mo h_mo rfl dX7_writes_42 ?_
    refine lv_iconst (v := zI 2) hx hb dX7_writes_45 (by decide +kernel) ?_
    refine lz_iadd hx hb dX7_writes_46 ?_
    obtain ⟨v20, ev20, hf⟩ := zlt_some hf
    refine lz_nm ev20 ?_
    refine zput hx hb inlX7 tyX7 tyX7_ok nmX7 rfl 30 rfl zk_t4_143 rfl hts hown hK hH hk_mo h_mo rfl rfl rfl dX7_writes_47 (fun σ21 Hσ21 lσ21 h_mo hn hH => ?_)
    have h_mo : σ21 19 = oC_mo ad mo_fields mo_bound mo_points mo_crossings mo_isKnown mo_commands mo_needleX mo_needleY mo_hasFile mo_format v20 mo_heads mo_late mo_ran mo_program mo_thrown mo_rowY mo_stitches := h_mo
    have h_mo_bytes := (hn 40 (by decide)).trans h_mo_bytes
    have hbg : ∀ i : Nat, i ≠ 19 → i ≠ 40 → σ21 i = σ0 i := fun i a0 a1 => (hn i a0).trans (hbg i a0 a1)
    refine lv_goto (tgt := 105) hx hb dX7_writes_50 (by decide) ?_
    cases hf
    exact zretv hx hb hr hlocks hQ hH ⟨h_mo, h_mo_bytes, hbg⟩ dX7_writes_105
abbrev rmX7_sumTo : Room := { frames := 0, cells := 0, slots := 0, locals := 0 }
theorem hd_X7_sumTo : yX7_sumTo.cls = RX7 ∧ yX7_sumTo.cls ≠ "java/lang/invoke/MethodHandle" ∧ yX7_sumTo.cls ≠ "java/lang/invoke/VarHandle" ∧ (parseMethodDescriptor yX7_sumTo.desc).map (fun d => d.parameters.length) = some 1 := by decide +kernel
set_option maxHeartbeats 4000000 in
set_option maxRecDepth 100000 in
theorem c_X7_sumTo {l : Launch} {D : va_G} {cI cZ cF cL cD : ClassId} {ad : Nat → Nat} {N : Nat} (hI : ∀ i j, i < N → j < N → ad i = ad j → i = j) (hN : 46 ≤ N) {σ0 : Nat → va_E} {sz : Nat} {mo_fields : Int} {mo_bound : Int} {mo_points : Int} {mo_crossings : Int} {mo_isKnown : Int} {mo_commands : Int} {mo_needleX : Int} {mo_needleY : Int} {mo_hasFile : Int} {mo_format : Int} {mo_length : Int} {mo_bytes : Int → Int} {mo_heads : Int} {mo_late : Int} {mo_ran : Int} {mo_program : Int} {mo_thrown : Int} {mo_rowY : Int} {mo_stitches : Int} {p1 : Int} {R0 : Int} (h_mo : σ0 19 = oC_mo ad mo_fields mo_bound mo_points mo_crossings mo_isKnown mo_commands mo_needleX mo_needleY mo_hasFile mo_format mo_length mo_heads mo_late mo_ran mo_program mo_thrown mo_rowY mo_stitches) (h_mo_bytes : σ0 40 = .inl (cI, 70000, .inl (zA mo_bytes))) (hf : f_X7_sumTo mo_bytes p1 = some R0) :
    Met l yX7_sumTo (Cond.code yX7_sumTo cX7_sumTo 4 (some .int) :: wsL_law) rmX7_sumTo (zPre D ad N (zT cI cZ cF cL cD) σ0 sz [.ref (ad 19), .int (zI p1)]) (zQi D ad N sz (fun r σ' => r = zI R0 ∧ σ' = σ0)) 0 0 (zFr ad N sz) := by
  refine zMet hI (plainFor_of_name (by decide)) (Nat.le_of_ble_eq_true rfl) ⟨rfl, rfl⟩ ?_
  intro p e s m args below meth c Q hx hb hr hlocks hml hown hts hK hsz hQ hH hA ls hl
  subst hsz
  have hk_mo : 19 < N := by omega
  have hk_mo_bytes : 40 < N := by omega
  have hl : lv_has ls 4 [(0, .ref (ad 19)), (1, .int (zI p1))] := hl
  have hbg : σ0 = σ0 := rfl
  have L4 : ∀ (x1 : Int)  (n : Nat) (x2 : Int) (x3 : Int) (x2' : Int) (x3' : Int), zlp (fun z => f_X7_sumTo_L4 mo_bytes x1 z.1 z.2) n (x2, x3) = some (x2', x3') → ∀ (σ : Nat → va_E) (H : Heap) (locs : List Loc) (hH : zH D ad N (zFr ad N s.heap.size) s.heap σ H locs) (h_mo : σ 19 = oC_mo ad mo_fields mo_bound mo_points mo_crossings mo_isKnown mo_commands mo_needleX mo_needleY mo_hasFile mo_format mo_length mo_heads mo_late mo_ran mo_program mo_thrown mo_rowY mo_stitches) (h_mo_bytes : σ 40 = .inl (cI, 70000, .inl (zA mo_bytes))) (hbg : σ = σ0) (ls : Array Slot) (hl : lv_has ls 4 [(0, .ref (ad 19)), (1, .int (zI x1)), (2, .int (zI x2)), (3, .int (zI x3))]), (∀ (σ : Nat → va_E) (H : Heap) (locs : List Loc) (hH : zH D ad N (zFr ad N s.heap.size) s.heap σ H locs) (h_mo : σ 19 = oC_mo ad mo_fields mo_bound mo_points mo_crossings mo_isKnown mo_commands mo_needleX mo_needleY mo_hasFile mo_format mo_length mo_heads mo_late mo_ran mo_program mo_thrown mo_rowY mo_stitches) (h_mo_bytes : σ 40 = .inl (cI, 70000, .inl (zA mo_bytes))) (hbg : σ = σ0) (ls : Array Slot) (hl : lv_has ls 4 [(2, .int (zI (x2')))]), W p l e rmX7_sumTo s m args below meth c H locs 0 0 Q (F0 m 24 ls [])) → W p l e rmX7_sumTo s m args below meth c H locs 0 0 Q (F0 m 4 ls []) := by
    intro x1 n
    induction n with
    | zero => intro x2 x3 x2' x3' hz; exact (zlp_0 hz).elim
    | succ n ih =>
      intro x2 x3 x2' x3' hz σ H locs hH h_mo h_mo_bytes hbg ls hl kx
      obtain ⟨nx, hf, hnx⟩ := zlp_some hz
      have hf : f_X7_sumTo_L4 mo_bytes x1 x2 x3 = some nx := hf
      unfold f_X7_sumTo_L4 at hf
      refine lv_iload_n hx hb dX7_sumTo_4 rfl (lv_at hl 3 rfl) ?_
      refine lv_iload_n hx hb dX7_sumTo_5 rfl (lv_at hl 1 rfl) ?_
      obtain ⟨k1, hf⟩ := zck_some hf
      refine lz_icmp_ge (tgt := 24) hx hb k1 dX7_sumTo_6 (by decide) (fun c2 => ?_) (fun c2 => ?_)
      · replace hf := (if_pos c2).symm.trans hf
        cases hf
        cases hnx
        exact kx _ _ _ hH h_mo h_mo_bytes hbg _ (lv_sub hl [2] rfl)
      · replace hf := (if_neg c2).symm.trans hf
        refine lv_iload_n hx hb dX7_sumTo_9 rfl (lv_at hl 2 rfl) ?_
        refine lv_aload_n hx hb dX7_sumTo_10 rfl (lv_at hl 0 rfl) ?_
        refine zget hx hb inlX7 rfl 31 rfl zk_t4_144 hts hown hK hH hk_mo h_mo rfl dX7_sumTo_11 ?_
        refine lv_iload_n hx hb dX7_sumTo_14 rfl (lv_at hl 3 rfl) ?_
        obtain ⟨k3, hf⟩ := zck_some hf
        refine ziald hx hb hK hH hk_mo_bytes 0 h_mo_bytes rfl k3 rfl dX7_sumTo_15 ?_
        refine lz_iadd hx hb dX7_sumTo_16 ?_
        obtain ⟨v4, ev4, hf⟩ := zlt_some hf
        refine lz_nm ev4 ?_
        refine lv_istore_n (lv' := [(2, .int (zI v4)), (0, .ref (ad 19)), (1, .int (zI x1)), (3, .int (zI x3))]) hx hb dX7_sumTo_17 rfl hl (by decide) rfl (fun ls hl => ?_)
        refine lz_iinc (lv' := [(3, .int (zI (x3 + 1))), (2, .int (zI v4)), (0, .ref (ad 19)), (1, .int (zI x1))]) hx hb dX7_sumTo_18 hl (j := 3) rfl (by decide) rfl (fun ls hl => ?_)
        refine lv_goto (tgt := 4) hx hb dX7_sumTo_21 (by decide) ?_
        cases hf
        exact ih v4 (x3 + 1) _ _ hnx _ _ _ hH h_mo h_mo_bytes hbg _ (lv_sub hl [2, 3, 1, 0] rfl) kx
  unfold f_X7_sumTo at hf
  refine lv_iconst (v := zI 0) hx hb dX7_sumTo_0 (by decide +kernel) ?_
  refine lv_istore_n (lv' := [(2, .int (zI 0)), (0, .ref (ad 19)), (1, .int (zI p1))]) hx hb dX7_sumTo_1 rfl hl (by decide) rfl (fun ls hl => ?_)
  refine lv_iconst (v := zI 0) hx hb dX7_sumTo_2 (by decide +kernel) ?_
  refine lv_istore_n (lv' := [(3, .int (zI 0)), (2, .int (zI 0)), (0, .ref (ad 19)), (1, .int (zI p1))]) hx hb dX7_sumTo_3 rfl hl (by decide) rfl (fun ls hl => ?_)
  obtain ⟨w6, w7, k5, hf⟩ := zb2_some hf
  refine L4 p1 zFU 0 0 w6 w7 k5 _ _ _ hH h_mo h_mo_bytes hbg _ (lv_sub hl [2, 3, 1, 0] rfl) (fun σ8 Hσ8 lσ8 hH h_mo h_mo_bytes hbg ls hl => ?_)
  refine lv_iload_n hx hb dX7_sumTo_24 rfl (lv_at hl 0 rfl) ?_
  refine lv_sipush (v := zI 256) hx hb dX7_sumTo_25 (by decide +kernel) ?_
  obtain ⟨k9, hf⟩ := zck_some hf
  refine lz_irem hx hb ⟨⟨k9, by decide⟩, by decide⟩ dX7_sumTo_28 ?_
  cases hf
  exact zreti hx hb hr hlocks hQ hH ⟨rfl, hbg⟩ dX7_sumTo_29
abbrev rmX7_write : Room := { frames := 6, cells := 0, slots := 0, locals := 150 }
theorem hd_X7_write : yX7_write.cls = RX7 ∧ yX7_write.cls ≠ "java/lang/invoke/MethodHandle" ∧ yX7_write.cls ≠ "java/lang/invoke/VarHandle" ∧ (parseMethodDescriptor yX7_write.desc).map (fun d => d.parameters.length) = some 1 := by decide +kernel
set_option maxHeartbeats 4000000 in
set_option maxRecDepth 100000 in
theorem c_X7_write {l : Launch} {D : va_G} {cI cZ cF cL cD : ClassId} {ad : Nat → Nat} {N : Nat} (hI : ∀ i j, i < N → j < N → ad i = ad j → i = j) (hN : 46 ≤ N) {σ0 : Nat → va_E} {sz : Nat} {mo_fields : Int} {mo_colour : Int → Int} {mo_layer : Int → Int} {mo_isColumn : Int → Int} {mo_corners : Int → Int} {mo_cornerX : Int → Int} {mo_cornerY : Int → Int} {mo_density : Int → Int} {mo_longest : Int → Int} {mo_shift : Int → Int} {mo_pull : Int → Int} {mo_hasUnderlay : Int → Int} {mo_bound : Int} {mo_pointX : Int → Int} {mo_pointY : Int → Int} {mo_points : Int} {mo_crossing : Int → Int} {mo_crossings : Int} {mo_isKnown : Int} {mo_commands : Int} {mo_kind : Int → Int} {mo_byX : Int → Int} {mo_byY : Int → Int} {mo_fieldOf : Int → Int} {mo_needleX : Int} {mo_needleY : Int} {mo_isSewn : Int → Int} {mo_hasFile : Int} {mo_format : Int} {mo_length : Int} {mo_bytes : Int → Int} {mo_heads : Int} {mo_late : Int} {mo_ran : Int} {mo_program : Int} {mo_thrown : Int} {mo_rowY : Int} {mo_stitches : Int} {p1 : Int} {R0 : Int} {R_mo_pointX : Int → Int} {R_mo_pointY : Int → Int} {R_mo_points : Int} {R_mo_crossing : Int → Int} {R_mo_crossings : Int} {R_mo_isKnown : Int} {R_mo_commands : Int} {R_mo_kind : Int → Int} {R_mo_byX : Int → Int} {R_mo_byY : Int → Int} {R_mo_fieldOf : Int → Int} {R_mo_needleX : Int} {R_mo_needleY : Int} {R_mo_isSewn : Int → Int} {R_mo_hasFile : Int} {R_mo_format : Int} {R_mo_length : Int} {R_mo_bytes : Int → Int} {R_mo_thrown : Int} {R_mo_rowY : Int} (h_mo : σ0 19 = oC_mo ad mo_fields mo_bound mo_points mo_crossings mo_isKnown mo_commands mo_needleX mo_needleY mo_hasFile mo_format mo_length mo_heads mo_late mo_ran mo_program mo_thrown mo_rowY mo_stitches) (h_mo_colour : σ0 20 = .inl (cI, 8, .inl (zA mo_colour))) (h_mo_layer : σ0 21 = .inl (cI, 8, .inl (zA mo_layer))) (h_mo_isColumn : σ0 22 = .inl (cZ, 8, .inl (zA mo_isColumn))) (h_mo_corners : σ0 23 = .inl (cI, 8, .inl (zA mo_corners))) (h_mo_cornerX : σ0 24 = .inl (cI, 64, .inl (zA mo_cornerX))) (h_mo_cornerY : σ0 25 = .inl (cI, 64, .inl (zA mo_cornerY))) (h_mo_density : σ0 26 = .inl (cI, 8, .inl (zA mo_density))) (h_mo_longest : σ0 27 = .inl (cI, 8, .inl (zA mo_longest))) (h_mo_shift : σ0 28 = .inl (cI, 8, .inl (zA mo_shift))) (h_mo_pull : σ0 29 = .inl (cI, 8, .inl (zA mo_pull))) (h_mo_hasUnderlay : σ0 30 = .inl (cZ, 8, .inl (zA mo_hasUnderlay))) (h_mo_pointX : σ0 31 = .inl (cI, 4096, .inl (zA mo_pointX))) (h_mo_pointY : σ0 32 = .inl (cI, 4096, .inl (zA mo_pointY))) (h_mo_crossing : σ0 33 = .inl (cI, 8, .inl (zA mo_crossing))) (h_mo_kind : σ0 34 = .inl (cI, 20000, .inl (zA mo_kind))) (h_mo_byX : σ0 35 = .inl (cI, 20000, .inl (zA mo_byX))) (h_mo_byY : σ0 36 = .inl (cI, 20000, .inl (zA mo_byY))) (h_mo_fieldOf : σ0 37 = .inl (cI, 20000, .inl (zA mo_fieldOf))) (h_mo_isSewn : σ0 38 = .inl (cZ, 8, .inl (zA mo_isSewn))) (h_mo_bytes : σ0 40 = .inl (cI, 70000, .inl (zA mo_bytes))) (hf : f_X7_write mo_fields mo_colour mo_layer mo_isColumn mo_corners mo_cornerX mo_cornerY mo_density mo_longest mo_shift mo_pull mo_hasUnderlay mo_bound mo_pointX mo_pointY mo_points mo_crossing mo_crossings mo_isKnown mo_commands mo_kind mo_byX mo_byY mo_fieldOf mo_needleX mo_needleY mo_isSewn mo_hasFile mo_format mo_length mo_bytes mo_thrown mo_rowY p1 = some (R0, R_mo_pointX, R_mo_pointY, R_mo_points, R_mo_crossing, R_mo_crossings, R_mo_isKnown, R_mo_commands, R_mo_kind, R_mo_byX, R_mo_byY, R_mo_fieldOf, R_mo_needleX, R_mo_needleY, R_mo_isSewn, R_mo_hasFile, R_mo_format, R_mo_length, R_mo_bytes, R_mo_thrown, R_mo_rowY)) :
    Met l yX7_write (Cond.code yX7_write cX7_write 8 (some .int) :: wsL_law) rmX7_write (zPre D ad N (zT cI cZ cF cL cD) σ0 sz [.ref (ad 19), .int (zI p1)]) (zQi D ad N sz (fun r σ' => r = zI R0 ∧ σ' 19 = oC_mo ad mo_fields mo_bound R_mo_points R_mo_crossings R_mo_isKnown R_mo_commands R_mo_needleX R_mo_needleY R_mo_hasFile R_mo_format R_mo_length mo_heads mo_late mo_ran mo_program R_mo_thrown R_mo_rowY mo_stitches ∧ σ' 31 = .inl (cI, 4096, .inl (zA R_mo_pointX)) ∧ σ' 32 = .inl (cI, 4096, .inl (zA R_mo_pointY)) ∧ σ' 33 = .inl (cI, 8, .inl (zA R_mo_crossing)) ∧ σ' 34 = .inl (cI, 20000, .inl (zA R_mo_kind)) ∧ σ' 35 = .inl (cI, 20000, .inl (zA R_mo_byX)) ∧ σ' 36 = .inl (cI, 20000, .inl (zA R_mo_byY)) ∧ σ' 37 = .inl (cI, 20000, .inl (zA R_mo_fieldOf)) ∧ σ' 38 = .inl (cZ, 8, .inl (zA R_mo_isSewn)) ∧ σ' 40 = .inl (cI, 70000, .inl (zA R_mo_bytes)) ∧ ∀ i : Nat, i ≠ 19 → i ≠ 31 → i ≠ 32 → i ≠ 33 → i ≠ 34 → i ≠ 35 → i ≠ 36 → i ≠ 37 → i ≠ 38 → i ≠ 40 → σ' i = σ0 i)) 0 0 (zFr ad N sz) := by
  refine zMet hI (plainFor_of_name (by decide)) (Nat.le_of_ble_eq_true rfl) ⟨rfl, rfl⟩ ?_
  intro p e s m args below meth c Q hx hb hr hlocks hml hown hts hK hsz hQ hH hA ls hl
  subst hsz
  have hk_mo : 19 < N := by omega
  have hk_mo_colour : 20 < N := by omega
  have hk_mo_layer : 21 < N := by omega
  have hk_mo_isColumn : 22 < N := by omega
  have hk_mo_corners : 23 < N := by omega
  have hk_mo_cornerX : 24 < N := by omega
  have hk_mo_cornerY : 25 < N := by omega
  have hk_mo_density : 26 < N := by omega
  have hk_mo_longest : 27 < N := by omega
  have hk_mo_shift : 28 < N := by omega
  have hk_mo_pull : 29 < N := by omega
  have hk_mo_hasUnderlay : 30 < N := by omega
  have hk_mo_pointX : 31 < N := by omega
  have hk_mo_pointY : 32 < N := by omega
  have hk_mo_crossing : 33 < N := by omega
  have hk_mo_kind : 34 < N := by omega
  have hk_mo_byX : 35 < N := by omega
  have hk_mo_byY : 36 < N := by omega
  have hk_mo_fieldOf : 37 < N := by omega
  have hk_mo_isSewn : 38 < N := by omega
  have hk_mo_bytes : 40 < N := by omega
  have hl : lv_has ls 8 [(0, .ref (ad 19)), (1, .int (zI p1))] := hl
  have hbg : ∀ i : Nat, i ≠ 19 → i ≠ 31 → i ≠ 32 → i ≠ 33 → i ≠ 34 → i ≠ 35 → i ≠ 36 → i ≠ 37 → i ≠ 38 → i ≠ 40 → σ0 i = σ0 i := fun _ _ _ _ _ _ _ _ _ _ _ => rfl
  have L49 : ∀ (mo_pointX : Int → Int) (mo_pointY : Int → Int) (mo_points : Int) (mo_crossing : Int → Int) (mo_crossings : Int) (mo_isKnown : Int) (mo_commands : Int) (mo_kind : Int → Int) (mo_byX : Int → Int) (mo_byY : Int → Int) (mo_fieldOf : Int → Int) (mo_needleX : Int) (mo_needleY : Int) (mo_isSewn : Int → Int) (mo_hasFile : Int) (mo_format : Int) (mo_thrown : Int) (mo_rowY : Int) (x2 : Int)  (n : Nat) (x3 : Int) (mo_length : Int) (mo_bytes : Int → Int) (x3' : Int) (mo_length' : Int) (mo_bytes' : Int → Int), zlp (fun z => f_X7_write_L49 mo_fields mo_colour mo_layer mo_isColumn mo_corners mo_cornerX mo_cornerY mo_density mo_longest mo_shift mo_pull mo_hasUnderlay mo_bound mo_pointX mo_pointY mo_points mo_crossing mo_crossings mo_isKnown mo_commands mo_kind mo_byX mo_byY mo_fieldOf mo_needleX mo_needleY mo_isSewn mo_hasFile mo_format mo_thrown mo_rowY x2 z.1 z.2.1 z.2.2) n (x3, mo_length, mo_bytes) = some (x3', mo_length', mo_bytes') → ∀ (σ : Nat → va_E) (H : Heap) (locs : List Loc) (hH : zH D ad N (zFr ad N s.heap.size) s.heap σ H locs) (h_mo : σ 19 = oC_mo ad mo_fields mo_bound mo_points mo_crossings mo_isKnown mo_commands mo_needleX mo_needleY mo_hasFile mo_format mo_length mo_heads mo_late mo_ran mo_program mo_thrown mo_rowY mo_stitches) (h_mo_colour : σ 20 = .inl (cI, 8, .inl (zA mo_colour))) (h_mo_layer : σ 21 = .inl (cI, 8, .inl (zA mo_layer))) (h_mo_isColumn : σ 22 = .inl (cZ, 8, .inl (zA mo_isColumn))) (h_mo_corners : σ 23 = .inl (cI, 8, .inl (zA mo_corners))) (h_mo_cornerX : σ 24 = .inl (cI, 64, .inl (zA mo_cornerX))) (h_mo_cornerY : σ 25 = .inl (cI, 64, .inl (zA mo_cornerY))) (h_mo_density : σ 26 = .inl (cI, 8, .inl (zA mo_density))) (h_mo_longest : σ 27 = .inl (cI, 8, .inl (zA mo_longest))) (h_mo_shift : σ 28 = .inl (cI, 8, .inl (zA mo_shift))) (h_mo_pull : σ 29 = .inl (cI, 8, .inl (zA mo_pull))) (h_mo_hasUnderlay : σ 30 = .inl (cZ, 8, .inl (zA mo_hasUnderlay))) (h_mo_pointX : σ 31 = .inl (cI, 4096, .inl (zA mo_pointX))) (h_mo_pointY : σ 32 = .inl (cI, 4096, .inl (zA mo_pointY))) (h_mo_crossing : σ 33 = .inl (cI, 8, .inl (zA mo_crossing))) (h_mo_kind : σ 34 = .inl (cI, 20000, .inl (zA mo_kind))) (h_mo_byX : σ 35 = .inl (cI, 20000, .inl (zA mo_byX))) (h_mo_byY : σ 36 = .inl (cI, 20000, .inl (zA mo_byY))) (h_mo_fieldOf : σ 37 = .inl (cI, 20000, .inl (zA mo_fieldOf))) (h_mo_isSewn : σ 38 = .inl (cZ, 8, .inl (zA mo_isSewn))) (h_mo_bytes : σ 40 = .inl (cI, 70000, .inl (zA mo_bytes))) (hbg : ∀ i : Nat, i ≠ 19 → i ≠ 31 → i ≠ 32 → i ≠ 33 → i ≠ 34 → i ≠ 35 → i ≠ 36 → i ≠ 37 → i ≠ 38 → i ≠ 40 → σ i = σ0 i) (ls : Array Slot) (hl : lv_has ls 8 [(0, .ref (ad 19)), (2, .int (zI x2)), (3, .int (zI x3))]), (∀ (σ : Nat → va_E) (H : Heap) (locs : List Loc) (hH : zH D ad N (zFr ad N s.heap.size) s.heap σ H locs) (h_mo : σ 19 = oC_mo ad mo_fields mo_bound mo_points mo_crossings mo_isKnown mo_commands mo_needleX mo_needleY mo_hasFile mo_format (mo_length') mo_heads mo_late mo_ran mo_program mo_thrown mo_rowY mo_stitches) (h_mo_colour : σ 20 = .inl (cI, 8, .inl (zA mo_colour))) (h_mo_layer : σ 21 = .inl (cI, 8, .inl (zA mo_layer))) (h_mo_isColumn : σ 22 = .inl (cZ, 8, .inl (zA mo_isColumn))) (h_mo_corners : σ 23 = .inl (cI, 8, .inl (zA mo_corners))) (h_mo_cornerX : σ 24 = .inl (cI, 64, .inl (zA mo_cornerX))) (h_mo_cornerY : σ 25 = .inl (cI, 64, .inl (zA mo_cornerY))) (h_mo_density : σ 26 = .inl (cI, 8, .inl (zA mo_density))) (h_mo_longest : σ 27 = .inl (cI, 8, .inl (zA mo_longest))) (h_mo_shift : σ 28 = .inl (cI, 8, .inl (zA mo_shift))) (h_mo_pull : σ 29 = .inl (cI, 8, .inl (zA mo_pull))) (h_mo_hasUnderlay : σ 30 = .inl (cZ, 8, .inl (zA mo_hasUnderlay))) (h_mo_pointX : σ 31 = .inl (cI, 4096, .inl (zA mo_pointX))) (h_mo_pointY : σ 32 = .inl (cI, 4096, .inl (zA mo_pointY))) (h_mo_crossing : σ 33 = .inl (cI, 8, .inl (zA mo_crossing))) (h_mo_kind : σ 34 = .inl (cI, 20000, .inl (zA mo_kind))) (h_mo_byX : σ 35 = .inl (cI, 20000, .inl (zA mo_byX))) (h_mo_byY : σ 36 = .inl (cI, 20000, .inl (zA mo_byY))) (h_mo_fieldOf : σ 37 = .inl (cI, 20000, .inl (zA mo_fieldOf))) (h_mo_isSewn : σ 38 = .inl (cZ, 8, .inl (zA mo_isSewn))) (h_mo_bytes : σ 40 = .inl (cI, 70000, .inl (zA (mo_bytes')))) (hbg : ∀ i : Nat, i ≠ 19 → i ≠ 31 → i ≠ 32 → i ≠ 33 → i ≠ 34 → i ≠ 35 → i ≠ 36 → i ≠ 37 → i ≠ 38 → i ≠ 40 → σ i = σ0 i) (ls : Array Slot) (hl : lv_has ls 8 [(0, .ref (ad 19))]), W p l e rmX7_write s m args below meth c H locs 0 0 Q (F0 m 191 ls [])) → W p l e rmX7_write s m args below meth c H locs 0 0 Q (F0 m 49 ls []) := by
    intro mo_pointX mo_pointY mo_points mo_crossing mo_crossings mo_isKnown mo_commands mo_kind mo_byX mo_byY mo_fieldOf mo_needleX mo_needleY mo_isSewn mo_hasFile mo_format mo_thrown mo_rowY x2 n
    induction n with
    | zero => intro x3 mo_length mo_bytes x3' mo_length' mo_bytes' hz; exact (zlp_0 hz).elim
    | succ n ih =>
      intro x3 mo_length mo_bytes x3' mo_length' mo_bytes' hz σ H locs hH h_mo h_mo_colour h_mo_layer h_mo_isColumn h_mo_corners h_mo_cornerX h_mo_cornerY h_mo_density h_mo_longest h_mo_shift h_mo_pull h_mo_hasUnderlay h_mo_pointX h_mo_pointY h_mo_crossing h_mo_kind h_mo_byX h_mo_byY h_mo_fieldOf h_mo_isSewn h_mo_bytes hbg ls hl kx
      obtain ⟨nx, hf, hnx⟩ := zlp_some hz
      have hf : f_X7_write_L49 mo_fields mo_colour mo_layer mo_isColumn mo_corners mo_cornerX mo_cornerY mo_density mo_longest mo_shift mo_pull mo_hasUnderlay mo_bound mo_pointX mo_pointY mo_points mo_crossing mo_crossings mo_isKnown mo_commands mo_kind mo_byX mo_byY mo_fieldOf mo_needleX mo_needleY mo_isSewn mo_hasFile mo_format mo_thrown mo_rowY x2 x3 mo_length mo_bytes = some nx := hf
      have L92 : ∀ (mo_pointX : Int → Int) (mo_pointY : Int → Int) (mo_points : Int) (mo_crossing : Int → Int) (mo_crossings : Int) (mo_isKnown : Int) (mo_commands : Int) (mo_kind : Int → Int) (mo_byX : Int → Int) (mo_byY : Int → Int) (mo_fieldOf : Int → Int) (mo_needleX : Int) (mo_needleY : Int) (mo_isSewn : Int → Int) (mo_hasFile : Int) (mo_format : Int) (mo_thrown : Int) (mo_rowY : Int) (x2 : Int) (x3 : Int) (x4 : Int)  (n : Nat) (x5 : Int) (mo_length : Int) (mo_bytes : Int → Int) (x5' : Int) (mo_length' : Int) (mo_bytes' : Int → Int), zlp (fun z => f_X7_write_L92 mo_fields mo_colour mo_layer mo_isColumn mo_corners mo_cornerX mo_cornerY mo_density mo_longest mo_shift mo_pull mo_hasUnderlay mo_bound mo_pointX mo_pointY mo_points mo_crossing mo_crossings mo_isKnown mo_commands mo_kind mo_byX mo_byY mo_fieldOf mo_needleX mo_needleY mo_isSewn mo_hasFile mo_format mo_thrown mo_rowY x2 x3 x4 z.1 z.2.1 z.2.2) n (x5, mo_length, mo_bytes) = some (x5', mo_length', mo_bytes') → ∀ (σ : Nat → va_E) (H : Heap) (locs : List Loc) (hH : zH D ad N (zFr ad N s.heap.size) s.heap σ H locs) (h_mo : σ 19 = oC_mo ad mo_fields mo_bound mo_points mo_crossings mo_isKnown mo_commands mo_needleX mo_needleY mo_hasFile mo_format mo_length mo_heads mo_late mo_ran mo_program mo_thrown mo_rowY mo_stitches) (h_mo_colour : σ 20 = .inl (cI, 8, .inl (zA mo_colour))) (h_mo_layer : σ 21 = .inl (cI, 8, .inl (zA mo_layer))) (h_mo_isColumn : σ 22 = .inl (cZ, 8, .inl (zA mo_isColumn))) (h_mo_corners : σ 23 = .inl (cI, 8, .inl (zA mo_corners))) (h_mo_cornerX : σ 24 = .inl (cI, 64, .inl (zA mo_cornerX))) (h_mo_cornerY : σ 25 = .inl (cI, 64, .inl (zA mo_cornerY))) (h_mo_density : σ 26 = .inl (cI, 8, .inl (zA mo_density))) (h_mo_longest : σ 27 = .inl (cI, 8, .inl (zA mo_longest))) (h_mo_shift : σ 28 = .inl (cI, 8, .inl (zA mo_shift))) (h_mo_pull : σ 29 = .inl (cI, 8, .inl (zA mo_pull))) (h_mo_hasUnderlay : σ 30 = .inl (cZ, 8, .inl (zA mo_hasUnderlay))) (h_mo_pointX : σ 31 = .inl (cI, 4096, .inl (zA mo_pointX))) (h_mo_pointY : σ 32 = .inl (cI, 4096, .inl (zA mo_pointY))) (h_mo_crossing : σ 33 = .inl (cI, 8, .inl (zA mo_crossing))) (h_mo_kind : σ 34 = .inl (cI, 20000, .inl (zA mo_kind))) (h_mo_byX : σ 35 = .inl (cI, 20000, .inl (zA mo_byX))) (h_mo_byY : σ 36 = .inl (cI, 20000, .inl (zA mo_byY))) (h_mo_fieldOf : σ 37 = .inl (cI, 20000, .inl (zA mo_fieldOf))) (h_mo_isSewn : σ 38 = .inl (cZ, 8, .inl (zA mo_isSewn))) (h_mo_bytes : σ 40 = .inl (cI, 70000, .inl (zA mo_bytes))) (hbg : ∀ i : Nat, i ≠ 19 → i ≠ 31 → i ≠ 32 → i ≠ 33 → i ≠ 34 → i ≠ 35 → i ≠ 36 → i ≠ 37 → i ≠ 38 → i ≠ 40 → σ i = σ0 i) (ls : Array Slot) (hl : lv_has ls 8 [(0, .ref (ad 19)), (2, .int (zI x2)), (3, .int (zI x3)), (4, .int (zI x4)), (5, .int (zI x5))]), (∀ (σ : Nat → va_E) (H : Heap) (locs : List Loc) (hH : zH D ad N (zFr ad N s.heap.size) s.heap σ H locs) (h_mo : σ 19 = oC_mo ad mo_fields mo_bound mo_points mo_crossings mo_isKnown mo_commands mo_needleX mo_needleY mo_hasFile mo_format (mo_length') mo_heads mo_late mo_ran mo_program mo_thrown mo_rowY mo_stitches) (h_mo_colour : σ 20 = .inl (cI, 8, .inl (zA mo_colour))) (h_mo_layer : σ 21 = .inl (cI, 8, .inl (zA mo_layer))) (h_mo_isColumn : σ 22 = .inl (cZ, 8, .inl (zA mo_isColumn))) (h_mo_corners : σ 23 = .inl (cI, 8, .inl (zA mo_corners))) (h_mo_cornerX : σ 24 = .inl (cI, 64, .inl (zA mo_cornerX))) (h_mo_cornerY : σ 25 = .inl (cI, 64, .inl (zA mo_cornerY))) (h_mo_density : σ 26 = .inl (cI, 8, .inl (zA mo_density))) (h_mo_longest : σ 27 = .inl (cI, 8, .inl (zA mo_longest))) (h_mo_shift : σ 28 = .inl (cI, 8, .inl (zA mo_shift))) (h_mo_pull : σ 29 = .inl (cI, 8, .inl (zA mo_pull))) (h_mo_hasUnderlay : σ 30 = .inl (cZ, 8, .inl (zA mo_hasUnderlay))) (h_mo_pointX : σ 31 = .inl (cI, 4096, .inl (zA mo_pointX))) (h_mo_pointY : σ 32 = .inl (cI, 4096, .inl (zA mo_pointY))) (h_mo_crossing : σ 33 = .inl (cI, 8, .inl (zA mo_crossing))) (h_mo_kind : σ 34 = .inl (cI, 20000, .inl (zA mo_kind))) (h_mo_byX : σ 35 = .inl (cI, 20000, .inl (zA mo_byX))) (h_mo_byY : σ 36 = .inl (cI, 20000, .inl (zA mo_byY))) (h_mo_fieldOf : σ 37 = .inl (cI, 20000, .inl (zA mo_fieldOf))) (h_mo_isSewn : σ 38 = .inl (cZ, 8, .inl (zA mo_isSewn))) (h_mo_bytes : σ 40 = .inl (cI, 70000, .inl (zA (mo_bytes')))) (hbg : ∀ i : Nat, i ≠ 19 → i ≠ 31 → i ≠ 32 → i ≠ 33 → i ≠ 34 → i ≠ 35 → i ≠ 36 → i ≠ 37 → i ≠ 38 → i ≠ 40 → σ i = σ0 i) (ls : Array Slot) (hl : lv_has ls 8 [(0, .ref (ad 19)), (2, .int (zI x2)), (3, .int (zI x3))]), W p l e rmX7_write s m args below meth c H locs 0 0 Q (F0 m 185 ls [])) → W p l e rmX7_write s m args below meth c H locs 0 0 Q (F0 m 92 ls []) := by
        intro mo_pointX mo_pointY mo_points mo_crossing mo_crossings mo_isKnown mo_commands mo_kind mo_byX mo_byY mo_fieldOf mo_needleX mo_needleY mo_isSewn mo_hasFile mo_format mo_thrown mo_rowY x2 x3 x4 n
        induction n with
        | zero => intro x5 mo_length mo_bytes x5' mo_length' mo_bytes' hz; exact (zlp_0 hz).elim
        | succ n ih =>
          intro x5 mo_length mo_bytes x5' mo_length' mo_bytes' hz σ H locs hH h_mo h_mo_colour h_mo_layer h_mo_isColumn h_mo_corners h_mo_cornerX h_mo_cornerY h_mo_density h_mo_longest h_mo_shift h_mo_pull h_mo_hasUnderlay h_mo_pointX h_mo_pointY h_mo_crossing h_mo_kind h_mo_byX h_mo_byY h_mo_fieldOf h_mo_isSewn h_mo_bytes hbg ls hl kx
          obtain ⟨nx, hf, hnx⟩ := zlp_some hz
          have hf : f_X7_write_L92 mo_fields mo_colour mo_layer mo_isColumn mo_corners mo_cornerX mo_cornerY mo_density mo_longest mo_shift mo_pull mo_hasUnderlay mo_bound mo_pointX mo_pointY mo_points mo_crossing mo_crossings mo_isKnown mo_commands mo_kind mo_byX mo_byY mo_fieldOf mo_needleX mo_needleY mo_isSewn mo_hasFile mo_format mo_thrown mo_rowY x2 x3 x4 x5 mo_length mo_bytes = some nx := hf
          unfold f_X7_write_L92 at hf
          refine lv_iload hx hb dX7_write_92 (lv_at hl 4 rfl) ?_
          refine lv_iload hx hb dX7_write_94 (lv_at hl 3 rfl) ?_
          obtain ⟨k1, hf⟩ := zck_some hf
          refine lz_icmp_gt (tgt := 185) hx hb k1 dX7_write_96 (by decide) (fun c2 => ?_) (fun c2 => ?_)
          · replace hf := (if_pos c2).symm.trans hf
            cases hf
            cases hnx
            exact kx _ _ _ hH h_mo h_mo_colour h_mo_layer h_mo_isColumn h_mo_corners h_mo_cornerX h_mo_cornerY h_mo_density h_mo_longest h_mo_shift h_mo_pull h_mo_hasUnderlay h_mo_pointX h_mo_pointY h_mo_crossing h_mo_kind h_mo_byX h_mo_byY h_mo_fieldOf h_mo_isSewn h_mo_bytes hbg _ (lv_sub hl [0, 1, 2] rfl)
          · replace hf := (if_neg c2).symm.trans hf
            refine lv_aload_n hx hb dX7_write_99 rfl (lv_at hl 0 rfl) ?_
            refine zget hx hb inlX7 rfl 21 rfl zk_t4_134 hts hown hK hH hk_mo h_mo rfl dX7_write_100 ?_
            refine lv_iload_n hx hb dX7_write_103 rfl (lv_at hl 2 rfl) ?_
            obtain ⟨k3, hf⟩ := zck_some hf
            refine ziald hx hb hK hH hk_mo_byX 0 h_mo_byX rfl k3 rfl dX7_write_104 ?_
            refine lv_iload hx hb dX7_write_105 (lv_at hl 4 rfl) ?_
            refine lz_imul hx hb dX7_write_107 ?_
            refine lv_iload hx hb dX7_write_108 (lv_at hl 3 rfl) ?_
            obtain ⟨r4, k5, hf⟩ := zb1_some hf
            refine zcSi (As := [.int (zI ((mo_byX x3) * x5)), .int (zI x4)]) (rest := []) hx hb hml hown hts hl.1 hK hH hA (c_X7_down hI hN   k5) zk_t5_65 zk_t5_66 zk_t1_6 zk_t5_67 hd_X7_down rfl ⟨rfl, rfl, Nat.le_of_ble_eq_true rfl, Nat.le_of_ble_eq_true rfl⟩ ⟨Nat.zero_le _, Nat.zero_le _⟩ rfl (Nat.le_of_ble_eq_true rfl) dX7_write_110 (fun q7 σ6 Hσ6 lσ6 hp hH => ?_)
            obtain ⟨hr1, hs1⟩ := hp; subst hr1; rw [hs1] at hH
            refine lv_aload_n hx hb dX7_write_113 rfl (lv_at hl 0 rfl) ?_
            refine zget hx hb inlX7 rfl 21 rfl zk_t4_134 hts hown hK hH hk_mo h_mo rfl dX7_write_114 ?_
            refine lv_iload_n hx hb dX7_write_117 rfl (lv_at hl 2 rfl) ?_
            obtain ⟨k8, hf⟩ := zck_some hf
            refine ziald hx hb hK hH hk_mo_byX 0 h_mo_byX rfl k8 rfl dX7_write_118 ?_
            refine lv_iload hx hb dX7_write_119 (lv_at hl 4 rfl) ?_
            refine lv_iconst (v := zI 1) hx hb dX7_write_121 (by decide +kernel) ?_
            refine lz_isub hx hb dX7_write_122 ?_
            refine lz_imul hx hb dX7_write_123 ?_
            refine lv_iload hx hb dX7_write_124 (lv_at hl 3 rfl) ?_
            obtain ⟨r9, k10, hf⟩ := zb1_some hf
            refine zcSi (As := [.int (zI ((mo_byX x3) * (x5 - 1))), .int (zI x4)]) (rest := [.int (zI r4)]) hx hb hml hown hts hl.1 hK hH hA (c_X7_down hI hN   k10) zk_t5_65 zk_t5_66 zk_t1_6 zk_t5_67 hd_X7_down rfl ⟨rfl, rfl, Nat.le_of_ble_eq_true rfl, Nat.le_of_ble_eq_true rfl⟩ ⟨Nat.zero_le _, Nat.zero_le _⟩ rfl (Nat.le_of_ble_eq_true rfl) dX7_write_126 (fun q12 σ11 Hσ11 lσ11 hp hH => ?_)
            obtain ⟨hr1, hs1⟩ := hp; subst hr1; rw [hs1] at hH
            refine lz_isub hx hb dX7_write_129 ?_
            obtain ⟨v13, ev13, hf⟩ := zlt_some hf
            refine lz_nm ev13 ?_
            refine lv_istore (lv' := [(6, .int (zI v13)), (0, .ref (ad 19)), (2, .int (zI x2)), (3, .int (zI x3)), (4, .int (zI x4)), (5, .int (zI x5))]) hx hb dX7_write_130 hl (by decide) rfl (fun ls hl => ?_)
            refine lv_aload_n hx hb dX7_write_132 rfl (lv_at hl 1 rfl) ?_
            refine zget hx hb inlX7 rfl 22 rfl zk_t4_135 hts hown hK hH hk_mo h_mo rfl dX7_write_133 ?_
            refine lv_iload_n hx hb dX7_write_136 rfl (lv_at hl 3 rfl) ?_
            obtain ⟨k14, hf⟩ := zck_some hf
            refine ziald hx hb hK hH hk_mo_byY 0 h_mo_byY rfl k14 rfl dX7_write_137 ?_
            refine lv_iload hx hb dX7_write_138 (lv_at hl 5 rfl) ?_
            refine lz_imul hx hb dX7_write_140 ?_
            refine lv_iload hx hb dX7_write_141 (lv_at hl 4 rfl) ?_
            obtain ⟨r15, k16, hf⟩ := zb1_some hf
            refine zcSi (As := [.int (zI ((mo_byY x3) * x5)), .int (zI x4)]) (rest := []) hx hb hml hown hts hl.1 hK hH hA (c_X7_down hI hN   k16) zk_t5_65 zk_t5_66 zk_t1_6 zk_t5_67 hd_X7_down rfl ⟨rfl, rfl, Nat.le_of_ble_eq_true rfl, Nat.le_of_ble_eq_true rfl⟩ ⟨Nat.zero_le _, Nat.zero_le _⟩ rfl (Nat.le_of_ble_eq_true rfl) dX7_write_143 (fun q18 σ17 Hσ17 lσ17 hp hH => ?_)
            obtain ⟨hr1, hs1⟩ := hp; subst hr1; rw [hs1] at hH
            refine lv_aload_n hx hb dX7_write_146 rfl (lv_at hl 1 rfl) ?_
            refine zget hx hb inlX7 rfl 22 rfl zk_t4_135 hts hown hK hH hk_mo h_mo rfl dX7_write_147 ?_
            refine lv_iload_n hx hb dX7_write_150 rfl (lv_at hl 3 rfl) ?_
            obtain ⟨k19, hf⟩ := zck_some hf
            refine ziald hx hb hK hH hk_mo_byY 0 h_mo_byY rfl k19 rfl dX7_write_151 ?_
            refine lv_iload hx hb dX7_write_152 (lv_at hl 5 rfl) ?_
            refine lv_iconst (v := zI 1) hx hb dX7_write_154 (by decide +kernel) ?_
            refine lz_isub hx hb dX7_write_155 ?_
            refine lz_imul hx hb dX7_write_156 ?_
            refine lv_iload hx hb dX7_write_157 (lv_at hl 4 rfl) ?_
            obtain ⟨r20, k21, hf⟩ := zb1_some hf
            refine zcSi (As := [.int (zI ((mo_byY x3) * (x5 - 1))), .int (zI x4)]) (rest := [.int (zI r15)]) hx hb hml hown hts hl.1 hK hH hA (c_X7_down hI hN   k21) zk_t5_65 zk_t5_66 zk_t1_6 zk_t5_67 hd_X7_down rfl ⟨rfl, rfl, Nat.le_of_ble_eq_true rfl, Nat.le_of_ble_eq_true rfl⟩ ⟨Nat.zero_le _, Nat.zero_le _⟩ rfl (Nat.le_of_ble_eq_true rfl) dX7_write_159 (fun q23 σ22 Hσ22 lσ22 hp hH => ?_)
            obtain ⟨hr1, hs1⟩ := hp; subst hr1; rw [hs1] at hH
            refine lz_isub hx hb dX7_write_162 ?_
            obtain ⟨v24, ev24, hf⟩ := zlt_some hf
            refine lz_nm ev24 ?_
            refine lv_istore (lv' := [(7, .int (zI v24)), (6, .int (zI v13)), (0, .ref (ad 19)), (2, .int (zI x2)), (3, .int (zI x3)), (4, .int (zI x4)), (5, .int (zI x5))]) hx hb dX7_write_163 hl (by decide) rfl (fun ls hl => ?_)
            refine lv_aload_n hx hb dX7_write_165 rfl (lv_at hl 2 rfl) ?_
            refine lv_aload_n hx hb dX7_write_166 rfl (lv_at hl 2 rfl) ?_
            refine zget hx hb inlX7 rfl 20 rfl zk_t4_133 hts hown hK hH hk_mo h_mo rfl dX7_write_167 ?_
            refine lv_iload_n hx hb dX7_write_170 rfl (lv_at hl 4 rfl) ?_
            obtain ⟨k25, hf⟩ := zck_some hf
            refine ziald hx hb hK hH hk_mo_kind 0 h_mo_kind rfl k25 rfl dX7_write_171 ?_
            refine lv_iload hx hb dX7_write_172 (lv_at hl 1 rfl) ?_
            refine lv_iload hx hb dX7_write_174 (lv_at hl 0 rfl) ?_
            obtain ⟨u26, a27, k28, hf⟩ := zb2_some hf
            refine zcVv (C := RX7) (As := [.int (zI (mo_kind x3)), .int (zI v13), .int (zI v24)]) (rest := []) hx hb hml hown hts hl.1 hK hH hA (c_X7_writes hI hN  h_mo h_mo_bytes k28) zk_t5_158 zk_t5_160 zk_s4_0 zk_t1_6 zk_t5_161 hd_X7_writes rfl ⟨rfl, rfl, Nat.le_of_ble_eq_true rfl, Nat.le_of_ble_eq_true rfl⟩ ⟨Nat.zero_le _, Nat.zero_le _⟩ hk_mo h_mo rfl rfl rfl (Nat.le_of_ble_eq_true rfl) dX7_write_176 (fun σ29 Hσ29 lσ29 hp hH => ?_)
            obtain ⟨h_mo, h_mo_bytes, hn⟩ := hp
            have h_mo_colour := (hn 20 (by decide) (by decide)).trans h_mo_colour
            have h_mo_layer := (hn 21 (by decide) (by decide)).trans h_mo_layer
            have h_mo_isColumn := (hn 22 (by decide) (by decide)).trans h_mo_isColumn
            have h_mo_corners := (hn 23 (by decide) (by decide)).trans h_mo_corners
            have h_mo_cornerX := (hn 24 (by decide) (by decide)).trans h_mo_cornerX
            have h_mo_cornerY := (hn 25 (by decide) (by decide)).trans h_mo_cornerY
            have h_mo_density := (hn 26 (by decide) (by decide)).trans h_mo_density
            have h_mo_longest := (hn 27 (by decide) (by decide)).trans h_mo_longest
            have h_mo_shift := (hn 28 (by decide) (by decide)).trans h_mo_shift
            have h_mo_pull := (hn 29 (by decide) (by decide)).trans h_mo_pull
            have h_mo_hasUnderlay := (hn 30 (by decide) (by decide)).trans h_mo_hasUnderlay
            have h_mo_pointX := (hn 31 (by decide) (by decide)).trans h_mo_pointX
            have h_mo_pointY := (hn 32 (by decide) (by decide)).trans h_mo_pointY
            have h_mo_crossing := (hn 33 (by decide) (by decide)).trans h_mo_crossing
            have h_mo_kind := (hn 34 (by decide) (by decide)).trans h_mo_kind
            have h_mo_byX := (hn 35 (by decide) (by decide)).trans h_mo_byX
            have h_mo_byY := (hn 36 (by decide) (by decide)).trans h_mo_byY
            have h_mo_fieldOf := (hn 37 (by decide) (by decide)).trans h_mo_fieldOf
            have h_mo_isSewn := (hn 38 (by decide) (by decide)).trans h_mo_isSewn
            have hbg : ∀ i : Nat, i ≠ 19 → i ≠ 31 → i ≠ 32 → i ≠ 33 → i ≠ 34 → i ≠ 35 → i ≠ 36 → i ≠ 37 → i ≠ 38 → i ≠ 40 → σ29 i = σ0 i := fun i a0 a1 a2 a3 a4 a5 a6 a7 a8 a9 => (hn i a0 a9).trans (hbg i a0 a1 a2 a3 a4 a5 a6 a7 a8 a9)
            refine lz_iinc (lv' := [(5, .int (zI (x5 + 1))), (7, .int (zI v24)), (6, .int (zI v13)), (0, .ref (ad 19)), (2, .int (zI x2)), (3, .int (zI x3)), (4, .int (zI x4))]) hx hb dX7_write_179 hl (j := 6) rfl (by decide) rfl (fun ls hl => ?_)
            refine lv_goto (tgt := 92) hx hb dX7_write_182 (by decide) ?_
            cases hf
            exact ih (x5 + 1) u26 a27 _ _ _ hnx _ _ _ hH h_mo h_mo_colour h_mo_layer h_mo_isColumn h_mo_corners h_mo_cornerX h_mo_cornerY h_mo_density h_mo_longest h_mo_shift h_mo_pull h_mo_hasUnderlay h_mo_pointX h_mo_pointY h_mo_crossing h_mo_kind h_mo_byX h_mo_byY h_mo_fieldOf h_mo_isSewn h_mo_bytes hbg _ (lv_sub hl [3, 4, 5, 6, 0] rfl) kx
      have JL49_87 : ∀ (mo_length : Int) (mo_bytes : Int → Int) (x3 : Int) (s0 : Int) (σ : Nat → va_E) (H : Heap) (locs : List Loc) (hH : zH D ad N (zFr ad N s.heap.size) s.heap σ H locs) (h_mo : σ 19 = oC_mo ad mo_fields mo_bound mo_points mo_crossings mo_isKnown mo_commands mo_needleX mo_needleY mo_hasFile mo_format mo_length mo_heads mo_late mo_ran mo_program mo_thrown mo_rowY mo_stitches) (h_mo_colour : σ 20 = .inl (cI, 8, .inl (zA mo_colour))) (h_mo_layer : σ 21 = .inl (cI, 8, .inl (zA mo_layer))) (h_mo_isColumn : σ 22 = .inl (cZ, 8, .inl (zA mo_isColumn))) (h_mo_corners : σ 23 = .inl (cI, 8, .inl (zA mo_corners))) (h_mo_cornerX : σ 24 = .inl (cI, 64, .inl (zA mo_cornerX))) (h_mo_cornerY : σ 25 = .inl (cI, 64, .inl (zA mo_cornerY))) (h_mo_density : σ 26 = .inl (cI, 8, .inl (zA mo_density))) (h_mo_longest : σ 27 = .inl (cI, 8, .inl (zA mo_longest))) (h_mo_shift : σ 28 = .inl (cI, 8, .inl (zA mo_shift))) (h_mo_pull : σ 29 = .inl (cI, 8, .inl (zA mo_pull))) (h_mo_hasUnderlay : σ 30 = .inl (cZ, 8, .inl (zA mo_hasUnderlay))) (h_mo_pointX : σ 31 = .inl (cI, 4096, .inl (zA mo_pointX))) (h_mo_pointY : σ 32 = .inl (cI, 4096, .inl (zA mo_pointY))) (h_mo_crossing : σ 33 = .inl (cI, 8, .inl (zA mo_crossing))) (h_mo_kind : σ 34 = .inl (cI, 20000, .inl (zA mo_kind))) (h_mo_byX : σ 35 = .inl (cI, 20000, .inl (zA mo_byX))) (h_mo_byY : σ 36 = .inl (cI, 20000, .inl (zA mo_byY))) (h_mo_fieldOf : σ 37 = .inl (cI, 20000, .inl (zA mo_fieldOf))) (h_mo_isSewn : σ 38 = .inl (cZ, 8, .inl (zA mo_isSewn))) (h_mo_bytes : σ 40 = .inl (cI, 70000, .inl (zA mo_bytes))) (hbg : ∀ i : Nat, i ≠ 19 → i ≠ 31 → i ≠ 32 → i ≠ 33 → i ≠ 34 → i ≠ 35 → i ≠ 36 → i ≠ 37 → i ≠ 38 → i ≠ 40 → σ i = σ0 i) (ls : Array Slot) (hl : lv_has ls 8 [(0, .ref (ad 19)), (2, .int (zI x2)), (3, .int (zI x3))]), f_X7_write_L49_87 mo_fields mo_colour mo_layer mo_isColumn mo_corners mo_cornerX mo_cornerY mo_density mo_longest mo_shift mo_pull mo_hasUnderlay mo_bound mo_pointX mo_pointY mo_points mo_crossing mo_crossings mo_isKnown mo_commands mo_kind mo_byX mo_byY mo_fieldOf mo_needleX mo_needleY mo_isSewn mo_hasFile mo_format mo_length mo_bytes mo_thrown mo_rowY x2 x3 s0 = some nx → W p l e rmX7_write s m args below meth c H locs 0 0 Q (F0 m 87 ls [.int (zI s0)]) := by
        intro mo_length mo_bytes x3 s0 σ H locs hH h_mo h_mo_colour h_mo_layer h_mo_isColumn h_mo_corners h_mo_cornerX h_mo_cornerY h_mo_density h_mo_longest h_mo_shift h_mo_pull h_mo_hasUnderlay h_mo_pointX h_mo_pointY h_mo_crossing h_mo_kind h_mo_byX h_mo_byY h_mo_fieldOf h_mo_isSewn h_mo_bytes hbg ls hl hf
        unfold f_X7_write_L49_87 at hf
        refine lv_istore (lv' := [(4, .int (zI s0)), (0, .ref (ad 19)), (2, .int (zI x2)), (3, .int (zI x3))]) hx hb dX7_write_87 hl (by decide) rfl (fun ls hl => ?_)
        refine lv_iconst (v := zI 1) hx hb dX7_write_89 (by decide +kernel) ?_
        refine lv_istore (lv' := [(5, .int (zI 1)), (4, .int (zI s0)), (0, .ref (ad 19)), (2, .int (zI x2)), (3, .int (zI x3))]) hx hb dX7_write_90 hl (by decide) rfl (fun ls hl => ?_)
        obtain ⟨w31, w32, w33, k30, hf⟩ := zb3_some hf
        refine L92 mo_pointX mo_pointY mo_points mo_crossing mo_crossings mo_isKnown mo_commands mo_kind mo_byX mo_byY mo_fieldOf mo_needleX mo_needleY mo_isSewn mo_hasFile mo_format mo_thrown mo_rowY x2 x3 s0 zFU 1 mo_length mo_bytes w31 w32 w33 k30 _ _ _ hH h_mo h_mo_colour h_mo_layer h_mo_isColumn h_mo_corners h_mo_cornerX h_mo_cornerY h_mo_density h_mo_longest h_mo_shift h_mo_pull h_mo_hasUnderlay h_mo_pointX h_mo_pointY h_mo_crossing h_mo_kind h_mo_byX h_mo_byY h_mo_fieldOf h_mo_isSewn h_mo_bytes hbg _ (lv_sub hl [2, 3, 4, 1, 0] rfl) (fun σ34 Hσ34 lσ34 hH h_mo h_mo_colour h_mo_layer h_mo_isColumn h_mo_corners h_mo_cornerX h_mo_cornerY h_mo_density h_mo_longest h_mo_shift h_mo_pull h_mo_hasUnderlay h_mo_pointX h_mo_pointY h_mo_crossing h_mo_kind h_mo_byX h_mo_byY h_mo_fieldOf h_mo_isSewn h_mo_bytes hbg ls hl => ?_)
        refine lz_iinc (lv' := [(3, .int (zI (x3 + 1))), (0, .ref (ad 19)), (2, .int (zI x2))]) hx hb dX7_write_185 hl (j := 2) rfl (by decide) rfl (fun ls hl => ?_)
        refine lv_goto (tgt := 49) hx hb dX7_write_188 (by decide) ?_
        cases hf
        exact ih (x3 + 1) w32 w33 _ _ _ hnx _ _ _ hH h_mo h_mo_colour h_mo_layer h_mo_isColumn h_mo_corners h_mo_cornerX h_mo_cornerY h_mo_density h_mo_longest h_mo_shift h_mo_pull h_mo_hasUnderlay h_mo_pointX h_mo_pointY h_mo_crossing h_mo_kind h_mo_byX h_mo_byY h_mo_fieldOf h_mo_isSewn h_mo_bytes hbg _ (lv_sub hl [1, 2, 0] rfl) kx
      unfold f_X7_write_L49 at hf
      refine lv_iload_n hx hb dX7_write_49 rfl (lv_at hl 2 rfl) ?_
      refine lv_aload_n hx hb dX7_write_50 rfl (lv_at hl 0 rfl) ?_
      refine zget hx hb inlX7 rfl 19 rfl zk_t4_132 hts hown hK hH hk_mo h_mo rfl dX7_write_51 ?_
      obtain ⟨k35, hf⟩ := zck_some hf
      refine lz_icmp_ge (tgt := 191) hx hb k35 dX7_write_54 (by decide) (fun c36 => ?_) (fun c36 => ?_)
      · replace hf := (if_pos c36).symm.trans hf
        cases hf
        cases hnx
        exact kx _ _ _ hH h_mo h_mo_colour h_mo_layer h_mo_isColumn h_mo_corners h_mo_cornerX h_mo_cornerY h_mo_density h_mo_longest h_mo_shift h_mo_pull h_mo_hasUnderlay h_mo_pointX h_mo_pointY h_mo_crossing h_mo_kind h_mo_byX h_mo_byY h_mo_fieldOf h_mo_isSewn h_mo_bytes hbg _ (lv_sub hl [0] rfl)
      · replace hf := (if_neg c36).symm.trans hf
        refine lv_aload_n hx hb dX7_write_57 rfl (lv_at hl 0 rfl) ?_
        refine zget hx hb inlX7 rfl 21 rfl zk_t4_134 hts hown hK hH hk_mo h_mo rfl dX7_write_58 ?_
        refine lv_iload_n hx hb dX7_write_61 rfl (lv_at hl 2 rfl) ?_
        obtain ⟨k37, hf⟩ := zck_some hf
        refine ziald hx hb hK hH hk_mo_byX 0 h_mo_byX rfl k37 rfl dX7_write_62 ?_
        refine lv_aload_n hx hb dX7_write_63 rfl (lv_at hl 0 rfl) ?_
        refine zget hx hb inlX7 rfl 22 rfl zk_t4_135 hts hown hK hH hk_mo h_mo rfl dX7_write_64 ?_
        refine lv_iload_n hx hb dX7_write_67 rfl (lv_at hl 2 rfl) ?_
        obtain ⟨k38, hf⟩ := zck_some hf
        refine ziald hx hb hK hH hk_mo_byY 0 h_mo_byY rfl k38 rfl dX7_write_68 ?_
        refine lv_iload_n hx hb dX7_write_69 rfl (lv_at hl 1 rfl) ?_
        obtain ⟨r39, k40, hf⟩ := zb1_some hf
        refine zcSi (As := [.int (zI (mo_byX x3)), .int (zI (mo_byY x3)), .int (zI x2)]) (rest := []) hx hb hml hown hts hl.1 hK hH hA (c_X7_steps hI hN   k40) zk_t5_76 zk_t5_77 zk_t1_6 zk_t5_78 hd_X7_steps rfl ⟨rfl, rfl, Nat.le_of_ble_eq_true rfl, Nat.le_of_ble_eq_true rfl⟩ ⟨Nat.zero_le _, Nat.zero_le _⟩ rfl (Nat.le_of_ble_eq_true rfl) dX7_write_70 (fun q42 σ41 Hσ41 lσ41 hp hH => ?_)
        obtain ⟨hr1, hs1⟩ := hp; subst hr1; rw [hs1] at hH
        refine lv_istore (lv' := [(4, .int (zI r39)), (0, .ref (ad 19)), (2, .int (zI x2)), (3, .int (zI x3))]) hx hb dX7_write_73 hl (by decide) rfl (fun ls hl => ?_)
        refine lv_iload hx hb dX7_write_75 (lv_at hl 0 rfl) ?_
        refine lv_iconst (v := zI 1) hx hb dX7_write_77 (by decide +kernel) ?_
        obtain ⟨k43, hf⟩ := zck_some hf
        refine lz_icmp_ge (tgt := 85) hx hb ⟨k43, by decide⟩ dX7_write_78 (by decide) (fun c44 => ?_) (fun c44 => ?_)
        · replace hf := (if_pos c44).symm.trans hf
          refine lv_iload hx hb dX7_write_85 (lv_at hl 0 rfl) ?_
          exact JL49_87 mo_length mo_bytes x3 r39 _ _ _ hH h_mo h_mo_colour h_mo_layer h_mo_isColumn h_mo_corners h_mo_cornerX h_mo_cornerY h_mo_density h_mo_longest h_mo_shift h_mo_pull h_mo_hasUnderlay h_mo_pointX h_mo_pointY h_mo_crossing h_mo_kind h_mo_byX h_mo_byY h_mo_fieldOf h_mo_isSewn h_mo_bytes hbg _ (lv_sub hl [1, 2, 3] rfl) hf
        · replace hf := (if_neg c44).symm.trans hf
          refine lv_iconst (v := zI 1) hx hb dX7_write_81 (by decide +kernel) ?_
          refine lv_goto (tgt := 87) hx hb dX7_write_82 (by decide) ?_
          exact JL49_87 mo_length mo_bytes x3 1 _ _ _ hH h_mo h_mo_colour h_mo_layer h_mo_isColumn h_mo_corners h_mo_cornerX h_mo_cornerY h_mo_density h_mo_longest h_mo_shift h_mo_pull h_mo_hasUnderlay h_mo_pointX h_mo_pointY h_mo_crossing h_mo_kind h_mo_byX h_mo_byY h_mo_fieldOf h_mo_isSewn h_mo_bytes hbg _ (lv_sub hl [1, 2, 3] rfl) hf
  have J15 : ∀ (mo_pointX : Int → Int) (mo_pointY : Int → Int) (mo_points : Int) (mo_crossing : Int → Int) (mo_crossings : Int) (mo_isKnown : Int) (mo_commands : Int) (mo_kind : Int → Int) (mo_byX : Int → Int) (mo_byY : Int → Int) (mo_fieldOf : Int → Int) (mo_needleX : Int) (mo_needleY : Int) (mo_isSewn : Int → Int) (mo_hasFile : Int) (mo_format : Int) (mo_length : Int) (mo_bytes : Int → Int) (mo_thrown : Int) (mo_rowY : Int) (x1 : Int) (s1 : Int) (σ : Nat → va_E) (H : Heap) (locs : List Loc) (hH : zH D ad N (zFr ad N s.heap.size) s.heap σ H locs) (h_mo : σ 19 = oC_mo ad mo_fields mo_bound mo_points mo_crossings mo_isKnown mo_commands mo_needleX mo_needleY mo_hasFile mo_format mo_length mo_heads mo_late mo_ran mo_program mo_thrown mo_rowY mo_stitches) (h_mo_colour : σ 20 = .inl (cI, 8, .inl (zA mo_colour))) (h_mo_layer : σ 21 = .inl (cI, 8, .inl (zA mo_layer))) (h_mo_isColumn : σ 22 = .inl (cZ, 8, .inl (zA mo_isColumn))) (h_mo_corners : σ 23 = .inl (cI, 8, .inl (zA mo_corners))) (h_mo_cornerX : σ 24 = .inl (cI, 64, .inl (zA mo_cornerX))) (h_mo_cornerY : σ 25 = .inl (cI, 64, .inl (zA mo_cornerY))) (h_mo_density : σ 26 = .inl (cI, 8, .inl (zA mo_density))) (h_mo_longest : σ 27 = .inl (cI, 8, .inl (zA mo_longest))) (h_mo_shift : σ 28 = .inl (cI, 8, .inl (zA mo_shift))) (h_mo_pull : σ 29 = .inl (cI, 8, .inl (zA mo_pull))) (h_mo_hasUnderlay : σ 30 = .inl (cZ, 8, .inl (zA mo_hasUnderlay))) (h_mo_pointX : σ 31 = .inl (cI, 4096, .inl (zA mo_pointX))) (h_mo_pointY : σ 32 = .inl (cI, 4096, .inl (zA mo_pointY))) (h_mo_crossing : σ 33 = .inl (cI, 8, .inl (zA mo_crossing))) (h_mo_kind : σ 34 = .inl (cI, 20000, .inl (zA mo_kind))) (h_mo_byX : σ 35 = .inl (cI, 20000, .inl (zA mo_byX))) (h_mo_byY : σ 36 = .inl (cI, 20000, .inl (zA mo_byY))) (h_mo_fieldOf : σ 37 = .inl (cI, 20000, .inl (zA mo_fieldOf))) (h_mo_isSewn : σ 38 = .inl (cZ, 8, .inl (zA mo_isSewn))) (h_mo_bytes : σ 40 = .inl (cI, 70000, .inl (zA mo_bytes))) (hbg : ∀ i : Nat, i ≠ 19 → i ≠ 31 → i ≠ 32 → i ≠ 33 → i ≠ 34 → i ≠ 35 → i ≠ 36 → i ≠ 37 → i ≠ 38 → i ≠ 40 → σ i = σ0 i) (ls : Array Slot) (hl : lv_has ls 8 [(0, .ref (ad 19)), (1, .int (zI x1))]), f_X7_write_15 mo_fields mo_colour mo_layer mo_isColumn mo_corners mo_cornerX mo_cornerY mo_density mo_longest mo_shift mo_pull mo_hasUnderlay mo_bound mo_pointX mo_pointY mo_points mo_crossing mo_crossings mo_isKnown mo_commands mo_kind mo_byX mo_byY mo_fieldOf mo_needleX mo_needleY mo_isSewn mo_hasFile mo_format mo_length mo_bytes mo_thrown mo_rowY x1 s1 = some (R0, R_mo_pointX, R_mo_pointY, R_mo_points, R_mo_crossing, R_mo_crossings, R_mo_isKnown, R_mo_commands, R_mo_kind, R_mo_byX, R_mo_byY, R_mo_fieldOf, R_mo_needleX, R_mo_needleY, R_mo_isSewn, R_mo_hasFile, R_mo_format, R_mo_length, R_mo_bytes, R_mo_thrown, R_mo_rowY) → W p l e rmX7_write s m args below meth c H locs 0 0 Q (F0 m 15 ls [.int (zI s1), .ref (ad 19)]) := by
    intro mo_pointX mo_pointY mo_points mo_crossing mo_crossings mo_isKnown mo_commands mo_kind mo_byX mo_byY mo_fieldOf mo_needleX mo_needleY mo_isSewn mo_hasFile mo_format mo_length mo_bytes mo_thrown mo_rowY x1 s1 σ H locs hH h_mo h_mo_colour h_mo_layer h_mo_isColumn h_mo_corners h_mo_cornerX h_mo_cornerY h_mo_density h_mo_longest h_mo_shift h_mo_pull h_mo_hasUnderlay h_mo_pointX h_mo_pointY h_mo_crossing h_mo_kind h_mo_byX h_mo_byY h_mo_fieldOf h_mo_isSewn h_mo_bytes hbg ls hl hf
    unfold f_X7_write_15 at hf
    obtain ⟨r45, u46, k47, hf⟩ := zb2_some hf
    refine zcVi (C := RX7) (As := [.int (zI s1)]) (rest := []) hx hb hml hown hts hl.1 hK hH hA (c_X7_asks hI hN  h_mo k47) zk_t5_11 zk_t5_13 zk_s2_13 zk_t1_6 zk_t5_14 hd_X7_asks rfl ⟨rfl, rfl, Nat.le_of_ble_eq_true rfl, Nat.le_of_ble_eq_true rfl⟩ ⟨Nat.zero_le _, Nat.zero_le _⟩ hk_mo h_mo rfl rfl rfl (Nat.le_of_ble_eq_true rfl) dX7_write_15 (fun q49 σ48 Hσ48 lσ48 hp hH => ?_)
    obtain ⟨hr1, h_mo, hn⟩ := hp
    subst hr1
    have h_mo_colour := (hn 20 (by decide)).trans h_mo_colour
    have h_mo_layer := (hn 21 (by decide)).trans h_mo_layer
    have h_mo_isColumn := (hn 22 (by decide)).trans h_mo_isColumn
    have h_mo_corners := (hn 23 (by decide)).trans h_mo_corners
    have h_mo_cornerX := (hn 24 (by decide)).trans h_mo_cornerX
    have h_mo_cornerY := (hn 25 (by decide)).trans h_mo_cornerY
    have h_mo_density := (hn 26 (by decide)).trans h_mo_density
    have h_mo_longest := (hn 27 (by decide)).trans h_mo_longest
    have h_mo_shift := (hn 28 (by decide)).trans h_mo_shift
    have h_mo_pull := (hn 29 (by decide)).trans h_mo_pull
    have h_mo_hasUnderlay := (hn 30 (by decide)).trans h_mo_hasUnderlay
    have h_mo_pointX := (hn 31 (by decide)).trans h_mo_pointX
    have h_mo_pointY := (hn 32 (by decide)).trans h_mo_pointY
    have h_mo_crossing := (hn 33 (by decide)).trans h_mo_crossing
    have h_mo_kind := (hn 34 (by decide)).trans h_mo_kind
    have h_mo_byX := (hn 35 (by decide)).trans h_mo_byX
    have h_mo_byY := (hn 36 (by decide)).trans h_mo_byY
    have h_mo_fieldOf := (hn 37 (by decide)).trans h_mo_fieldOf
    have h_mo_isSewn := (hn 38 (by decide)).trans h_mo_isSewn
    have h_mo_bytes := (hn 40 (by decide)).trans h_mo_bytes
    have hbg : ∀ i : Nat, i ≠ 19 → i ≠ 31 → i ≠ 32 → i ≠ 33 → i ≠ 34 → i ≠ 35 → i ≠ 36 → i ≠ 37 → i ≠ 38 → i ≠ 40 → σ48 i = σ0 i := fun i a0 a1 a2 a3 a4 a5 a6 a7 a8 a9 => (hn i a0).trans (hbg i a0 a1 a2 a3 a4 a5 a6 a7 a8 a9)
    obtain ⟨k50, hf⟩ := zck_some hf
    refine lz_if_ne (tgt := 23) hx hb k50 dX7_write_18 (by decide) (fun c51 => ?_) (fun c51 => ?_)
    · replace hf := (if_neg c51).symm.trans hf
      refine lv_aload_n hx hb dX7_write_23 rfl (lv_at hl 0 rfl) ?_
      obtain ⟨a52, a53, u54, a55, u56, u57, u58, a59, a60, a61, a62, u63, u64, a65, u66, k67, hf⟩ := zb15_some hf
      refine zcVv (C := RX7) (As := []) (rest := []) hx hb hml hown hts hl.1 hK hH hA (c_X7_reckons hI hN  h_mo h_mo_colour h_mo_layer h_mo_isColumn h_mo_corners h_mo_cornerX h_mo_cornerY h_mo_density h_mo_longest h_mo_shift h_mo_pull h_mo_hasUnderlay h_mo_pointX h_mo_pointY h_mo_crossing h_mo_kind h_mo_byX h_mo_byY h_mo_fieldOf h_mo_isSewn k67) zk_t5_43 zk_t5_45 zk_s3_0 zk_t1_6 zk_t5_46 hd_X7_reckons rfl ⟨rfl, rfl, Nat.le_of_ble_eq_true rfl, Nat.le_of_ble_eq_true rfl⟩ ⟨Nat.zero_le _, Nat.zero_le _⟩ hk_mo h_mo rfl rfl rfl (Nat.le_of_ble_eq_true rfl) dX7_write_24 (fun σ68 Hσ68 lσ68 hp hH => ?_)
      obtain ⟨h_mo, h_mo_pointX, h_mo_pointY, h_mo_crossing, h_mo_kind, h_mo_byX, h_mo_byY, h_mo_fieldOf, h_mo_isSewn, hn⟩ := hp
      have h_mo_colour := (hn 20 (by decide) (by decide) (by decide) (by decide) (by decide) (by decide) (by decide) (by decide) (by decide)).trans h_mo_colour
      have h_mo_layer := (hn 21 (by decide) (by decide) (by decide) (by decide) (by decide) (by decide) (by decide) (by decide) (by decide)).trans h_mo_layer
      have h_mo_isColumn := (hn 22 (by decide) (by decide) (by decide) (by decide) (by decide) (by decide) (by decide) (by decide) (by decide)).trans h_mo_isColumn
      have h_mo_corners := (hn 23 (by decide) (by decide) (by decide) (by decide) (by decide) (by decide) (by decide) (by decide) (by decide)).trans h_mo_corners
      have h_mo_cornerX := (hn 24 (by decide) (by decide) (by decide) (by decide) (by decide) (by decide) (by decide) (by decide) (by decide)).trans h_mo_cornerX
      have h_mo_cornerY := (hn 25 (by decide) (by decide) (by decide) (by decide) (by decide) (by decide) (by decide) (by decide) (by decide)).trans h_mo_cornerY
      have h_mo_density := (hn 26 (by decide) (by decide) (by decide) (by decide) (by decide) (by decide) (by decide) (by decide) (by decide)).trans h_mo_density
      have h_mo_longest := (hn 27 (by decide) (by decide) (by decide) (by decide) (by decide) (by decide) (by decide) (by decide) (by decide)).trans h_mo_longest
      have h_mo_shift := (hn 28 (by decide) (by decide) (by decide) (by decide) (by decide) (by decide) (by decide) (by decide) (by decide)).trans h_mo_shift
      have h_mo_pull := (hn 29 (by decide) (by decide) (by decide) (by decide) (by decide) (by decide) (by decide) (by decide) (by decide)).trans h_mo_pull
      have h_mo_hasUnderlay := (hn 30 (by decide) (by decide) (by decide) (by decide) (by decide) (by decide) (by decide) (by decide) (by decide)).trans h_mo_hasUnderlay
      have h_mo_bytes := (hn 40 (by decide) (by decide) (by decide) (by decide) (by decide) (by decide) (by decide) (by decide) (by decide)).trans h_mo_bytes
      have hbg : ∀ i : Nat, i ≠ 19 → i ≠ 31 → i ≠ 32 → i ≠ 33 → i ≠ 34 → i ≠ 35 → i ≠ 36 → i ≠ 37 → i ≠ 38 → i ≠ 40 → σ68 i = σ0 i := fun i a0 a1 a2 a3 a4 a5 a6 a7 a8 a9 => (hn i a0 a1 a2 a3 a4 a5 a6 a7 a8).trans (hbg i a0 a1 a2 a3 a4 a5 a6 a7 a8 a9)
      refine lv_aload_n hx hb dX7_write_27 rfl (lv_at hl 0 rfl) ?_
      refine lv_iload_n hx hb dX7_write_28 rfl (lv_at hl 1 rfl) ?_
      refine zput hx hb inlX7 tyX7 tyX7_ok nmX7 rfl 29 rfl zk_t4_142 rfl hts hown hK hH hk_mo h_mo rfl rfl rfl dX7_write_29 (fun σ69 Hσ69 lσ69 h_mo hn hH => ?_)
      have h_mo : σ69 19 = oC_mo ad mo_fields mo_bound u54 u56 u57 u58 u63 u64 mo_hasFile x1 mo_length mo_heads mo_late mo_ran mo_program u46 u66 mo_stitches := h_mo
      have h_mo_colour := (hn 20 (by decide)).trans h_mo_colour
      have h_mo_layer := (hn 21 (by decide)).trans h_mo_layer
      have h_mo_isColumn := (hn 22 (by decide)).trans h_mo_isColumn
      have h_mo_corners := (hn 23 (by decide)).trans h_mo_corners
      have h_mo_cornerX := (hn 24 (by decide)).trans h_mo_cornerX
      have h_mo_cornerY := (hn 25 (by decide)).trans h_mo_cornerY
      have h_mo_density := (hn 26 (by decide)).trans h_mo_density
      have h_mo_longest := (hn 27 (by decide)).trans h_mo_longest
      have h_mo_shift := (hn 28 (by decide)).trans h_mo_shift
      have h_mo_pull := (hn 29 (by decide)).trans h_mo_pull
      have h_mo_hasUnderlay := (hn 30 (by decide)).trans h_mo_hasUnderlay
      have h_mo_pointX := (hn 31 (by decide)).trans h_mo_pointX
      have h_mo_pointY := (hn 32 (by decide)).trans h_mo_pointY
      have h_mo_crossing := (hn 33 (by decide)).trans h_mo_crossing
      have h_mo_kind := (hn 34 (by decide)).trans h_mo_kind
      have h_mo_byX := (hn 35 (by decide)).trans h_mo_byX
      have h_mo_byY := (hn 36 (by decide)).trans h_mo_byY
      have h_mo_fieldOf := (hn 37 (by decide)).trans h_mo_fieldOf
      have h_mo_isSewn := (hn 38 (by decide)).trans h_mo_isSewn
      have h_mo_bytes := (hn 40 (by decide)).trans h_mo_bytes
      have hbg : ∀ i : Nat, i ≠ 19 → i ≠ 31 → i ≠ 32 → i ≠ 33 → i ≠ 34 → i ≠ 35 → i ≠ 36 → i ≠ 37 → i ≠ 38 → i ≠ 40 → σ69 i = σ0 i := fun i a0 a1 a2 a3 a4 a5 a6 a7 a8 a9 => (hn i a0).trans (hbg i a0 a1 a2 a3 a4 a5 a6 a7 a8 a9)
      refine lv_aload_n hx hb dX7_write_32 rfl (lv_at hl 0 rfl) ?_
      refine lv_iconst (v := zI 1) hx hb dX7_write_33 (by decide +kernel) ?_
      refine zput hx hb inlX7 tyX7 tyX7_ok nmX7 rfl 28 rfl zk_t4_141 rfl hts hown hK hH hk_mo h_mo (z_nar _ (Or.inr rfl)) (z_fit _ (Or.inr rfl)) rfl dX7_write_34 (fun σ70 Hσ70 lσ70 h_mo hn hH => ?_)
      have h_mo : σ70 19 = oC_mo ad mo_fields mo_bound u54 u56 u57 u58 u63 u64 1 x1 mo_length mo_heads mo_late mo_ran mo_program u46 u66 mo_stitches := h_mo
      have h_mo_colour := (hn 20 (by decide)).trans h_mo_colour
      have h_mo_layer := (hn 21 (by decide)).trans h_mo_layer
      have h_mo_isColumn := (hn 22 (by decide)).trans h_mo_isColumn
      have h_mo_corners := (hn 23 (by decide)).trans h_mo_corners
      have h_mo_cornerX := (hn 24 (by decide)).trans h_mo_cornerX
      have h_mo_cornerY := (hn 25 (by decide)).trans h_mo_cornerY
      have h_mo_density := (hn 26 (by decide)).trans h_mo_density
      have h_mo_longest := (hn 27 (by decide)).trans h_mo_longest
      have h_mo_shift := (hn 28 (by decide)).trans h_mo_shift
      have h_mo_pull := (hn 29 (by decide)).trans h_mo_pull
      have h_mo_hasUnderlay := (hn 30 (by decide)).trans h_mo_hasUnderlay
      have h_mo_pointX := (hn 31 (by decide)).trans h_mo_pointX
      have h_mo_pointY := (hn 32 (by decide)).trans h_mo_pointY
      have h_mo_crossing := (hn 33 (by decide)).trans h_mo_crossing
      have h_mo_kind := (hn 34 (by decide)).trans h_mo_kind
      have h_mo_byX := (hn 35 (by decide)).trans h_mo_byX
      have h_mo_byY := (hn 36 (by decide)).trans h_mo_byY
      have h_mo_fieldOf := (hn 37 (by decide)).trans h_mo_fieldOf
      have h_mo_isSewn := (hn 38 (by decide)).trans h_mo_isSewn
      have h_mo_bytes := (hn 40 (by decide)).trans h_mo_bytes
      have hbg : ∀ i : Nat, i ≠ 19 → i ≠ 31 → i ≠ 32 → i ≠ 33 → i ≠ 34 → i ≠ 35 → i ≠ 36 → i ≠ 37 → i ≠ 38 → i ≠ 40 → σ70 i = σ0 i := fun i a0 a1 a2 a3 a4 a5 a6 a7 a8 a9 => (hn i a0).trans (hbg i a0 a1 a2 a3 a4 a5 a6 a7 a8 a9)
      refine lv_aload_n hx hb dX7_write_37 rfl (lv_at hl 0 rfl) ?_
      refine lv_iconst (v := zI 0) hx hb dX7_write_38 (by decide +kernel) ?_
      refine zput hx hb inlX7 tyX7 tyX7_ok nmX7 rfl 30 rfl zk_t4_143 rfl hts hown hK hH hk_mo h_mo rfl rfl rfl dX7_write_39 (fun σ71 Hσ71 lσ71 h_mo hn hH => ?_)
      have h_mo : σ71 19 = oC_mo ad mo_fields mo_bound u54 u56 u57 u58 u63 u64 1 x1 0 mo_heads mo_late mo_ran mo_program u46 u66 mo_stitches := h_mo
      have h_mo_colour := (hn 20 (by decide)).trans h_mo_colour
      have h_mo_layer := (hn 21 (by decide)).trans h_mo_layer
      have h_mo_isColumn := (hn 22 (by decide)).trans h_mo_isColumn
      have h_mo_corners := (hn 23 (by decide)).trans h_mo_corners
      have h_mo_cornerX := (hn 24 (by decide)).trans h_mo_cornerX
      have h_mo_cornerY := (hn 25 (by decide)).trans h_mo_cornerY
      have h_mo_density := (hn 26 (by decide)).trans h_mo_density
      have h_mo_longest := (hn 27 (by decide)).trans h_mo_longest
      have h_mo_shift := (hn 28 (by decide)).trans h_mo_shift
      have h_mo_pull := (hn 29 (by decide)).trans h_mo_pull
      have h_mo_hasUnderlay := (hn 30 (by decide)).trans h_mo_hasUnderlay
      have h_mo_pointX := (hn 31 (by decide)).trans h_mo_pointX
      have h_mo_pointY := (hn 32 (by decide)).trans h_mo_pointY
      have h_mo_crossing := (hn 33 (by decide)).trans h_mo_crossing
      have h_mo_kind := (hn 34 (by decide)).trans h_mo_kind
      have h_mo_byX := (hn 35 (by decide)).trans h_mo_byX
      have h_mo_byY := (hn 36 (by decide)).trans h_mo_byY
      have h_mo_fieldOf := (hn 37 (by decide)).trans h_mo_fieldOf
      have h_mo_isSewn := (hn 38 (by decide)).trans h_mo_isSewn
      have h_mo_bytes := (hn 40 (by decide)).trans h_mo_bytes
      have hbg : ∀ i : Nat, i ≠ 19 → i ≠ 31 → i ≠ 32 → i ≠ 33 → i ≠ 34 → i ≠ 35 → i ≠ 36 → i ≠ 37 → i ≠ 38 → i ≠ 40 → σ71 i = σ0 i := fun i a0 a1 a2 a3 a4 a5 a6 a7 a8 a9 => (hn i a0).trans (hbg i a0 a1 a2 a3 a4 a5 a6 a7 a8 a9)
      refine lv_iload_n hx hb dX7_write_42 rfl (lv_at hl 1 rfl) ?_
      obtain ⟨r72, k73, hf⟩ := zb1_some hf
      refine zcSi (As := [.int (zI x1)]) (rest := []) hx hb hml hown hts hl.1 hK hH hA (c_X7_limitOf hI hN   k73) zk_t5_155 zk_t5_156 zk_t1_6 zk_t5_157 hd_X7_limitOf rfl ⟨rfl, rfl, Nat.le_of_ble_eq_true rfl, Nat.le_of_ble_eq_true rfl⟩ ⟨Nat.zero_le _, Nat.zero_le _⟩ rfl (Nat.le_of_ble_eq_true rfl) dX7_write_43 (fun q75 σ74 Hσ74 lσ74 hp hH => ?_)
      obtain ⟨hr1, hs1⟩ := hp; subst hr1; rw [hs1] at hH
      refine lv_istore_n (lv' := [(2, .int (zI r72)), (0, .ref (ad 19)), (1, .int (zI x1))]) hx hb dX7_write_46 rfl hl (by decide) rfl (fun ls hl => ?_)
      refine lv_iconst (v := zI 0) hx hb dX7_write_47 (by decide +kernel) ?_
      refine lv_istore_n (lv' := [(3, .int (zI 0)), (2, .int (zI r72)), (0, .ref (ad 19)), (1, .int (zI x1))]) hx hb dX7_write_48 rfl hl (by decide) rfl (fun ls hl => ?_)
      obtain ⟨w77, w78, w79, k76, hf⟩ := zb3_some hf
      refine L49 a52 a53 u54 a55 u56 u57 u58 a59 a60 a61 a62 u63 u64 a65 1 x1 u46 u66 r72 zFU 0 0 mo_bytes w77 w78 w79 k76 _ _ _ hH h_mo h_mo_colour h_mo_layer h_mo_isColumn h_mo_corners h_mo_cornerX h_mo_cornerY h_mo_density h_mo_longest h_mo_shift h_mo_pull h_mo_hasUnderlay h_mo_pointX h_mo_pointY h_mo_crossing h_mo_kind h_mo_byX h_mo_byY h_mo_fieldOf h_mo_isSewn h_mo_bytes hbg _ (lv_sub hl [2, 1, 0] rfl) (fun σ80 Hσ80 lσ80 hH h_mo h_mo_colour h_mo_layer h_mo_isColumn h_mo_corners h_mo_cornerX h_mo_cornerY h_mo_density h_mo_longest h_mo_shift h_mo_pull h_mo_hasUnderlay h_mo_pointX h_mo_pointY h_mo_crossing h_mo_kind h_mo_byX h_mo_byY h_mo_fieldOf h_mo_isSewn h_mo_bytes hbg ls hl => ?_)
      refine lv_aload_n hx hb dX7_write_191 rfl (lv_at hl 0 rfl) ?_
      refine zget hx hb inlX7 rfl 31 rfl zk_t4_144 hts hown hK hH hk_mo h_mo rfl dX7_write_192 ?_
      refine lv_aload_n hx hb dX7_write_195 rfl (lv_at hl 0 rfl) ?_
      refine zget hx hb inlX7 rfl 30 rfl zk_t4_143 hts hown hK hH hk_mo h_mo rfl dX7_write_196 ?_
      refine lv_aload_n hx hb dX7_write_199 rfl (lv_at hl 0 rfl) ?_
      refine lv_aload_n hx hb dX7_write_200 rfl (lv_at hl 0 rfl) ?_
      refine zget hx hb inlX7 rfl 30 rfl zk_t4_143 hts hown hK hH hk_mo h_mo rfl dX7_write_201 ?_
      obtain ⟨r81, k82, hf⟩ := zb1_some hf
      refine zcVi (C := RX7) (As := [.int (zI w78)]) (rest := [.int (zI w78), .ref (ad 40)]) hx hb hml hown hts hl.1 hK hH hA (c_X7_sumTo hI hN  h_mo h_mo_bytes k82) zk_t5_162 zk_t5_164 zk_s4_1 zk_t1_6 zk_t5_165 hd_X7_sumTo rfl ⟨rfl, rfl, Nat.le_of_ble_eq_true rfl, Nat.le_of_ble_eq_true rfl⟩ ⟨Nat.zero_le _, Nat.zero_le _⟩ hk_mo h_mo rfl rfl rfl (Nat.le_of_ble_eq_true rfl) dX7_write_204 (fun q84 σ83 Hσ83 lσ83 hp hH => ?_)
      obtain ⟨hr1, hs1⟩ := hp; subst hr1; rw [hs1] at hH
      obtain ⟨k85, hf⟩ := zck_some hf
      obtain ⟨a87, ea87, hf⟩ := zlt_some hf
      refine ziast hx hb hK hH hk_mo_bytes 0 h_mo_bytes rfl k85 rfl dX7_write_207 (fun σ86 Hσ86 lσ86 h_mo_bytes hn hH => ?_)
      rw [← ea87] at h_mo_bytes
      have h_mo := (hn 19 (by decide)).trans h_mo
      have h_mo_colour := (hn 20 (by decide)).trans h_mo_colour
      have h_mo_layer := (hn 21 (by decide)).trans h_mo_layer
      have h_mo_isColumn := (hn 22 (by decide)).trans h_mo_isColumn
      have h_mo_corners := (hn 23 (by decide)).trans h_mo_corners
      have h_mo_cornerX := (hn 24 (by decide)).trans h_mo_cornerX
      have h_mo_cornerY := (hn 25 (by decide)).trans h_mo_cornerY
      have h_mo_density := (hn 26 (by decide)).trans h_mo_density
      have h_mo_longest := (hn 27 (by decide)).trans h_mo_longest
      have h_mo_shift := (hn 28 (by decide)).trans h_mo_shift
      have h_mo_pull := (hn 29 (by decide)).trans h_mo_pull
      have h_mo_hasUnderlay := (hn 30 (by decide)).trans h_mo_hasUnderlay
      have h_mo_pointX := (hn 31 (by decide)).trans h_mo_pointX
      have h_mo_pointY := (hn 32 (by decide)).trans h_mo_pointY
      have h_mo_crossing := (hn 33 (by decide)).trans h_mo_crossing
      have h_mo_kind := (hn 34 (by decide)).trans h_mo_kind
      have h_mo_byX := (hn 35 (by decide)).trans h_mo_byX
      have h_mo_byY := (hn 36 (by decide)).trans h_mo_byY
      have h_mo_fieldOf := (hn 37 (by decide)).trans h_mo_fieldOf
      have h_mo_isSewn := (hn 38 (by decide)).trans h_mo_isSewn
      have hbg : ∀ i : Nat, i ≠ 19 → i ≠ 31 → i ≠ 32 → i ≠ 33 → i ≠ 34 → i ≠ 35 → i ≠ 36 → i ≠ 37 → i ≠ 38 → i ≠ 40 → σ86 i = σ0 i := fun i a0 a1 a2 a3 a4 a5 a6 a7 a8 a9 => (hn i a9).trans (hbg i a0 a1 a2 a3 a4 a5 a6 a7 a8 a9)
      refine lv_aload_n hx hb dX7_write_208 rfl (lv_at hl 0 rfl) ?_
      refine lv_dup hx hb dX7_write_209 rfl ?_
      refine zget hx hb inlX7 rfl 30 rfl zk_t4_143 hts hown hK hH hk_mo h_mo rfl dX7_write_210 ?_
      refine lv_iconst (v := zI 1) hx hb dX7_write_213 (by decide +kernel) ?_
      refine lz_iadd hx hb dX7_write_214 ?_
      obtain ⟨v88, ev88, hf⟩ := zlt_some hf
      refine lz_nm ev88 ?_
      refine zput hx hb inlX7 tyX7 tyX7_ok nmX7 rfl 30 rfl zk_t4_143 rfl hts hown hK hH hk_mo h_mo rfl rfl rfl dX7_write_215 (fun σ89 Hσ89 lσ89 h_mo hn hH => ?_)
      have h_mo : σ89 19 = oC_mo ad mo_fields mo_bound u54 u56 u57 u58 u63 u64 1 x1 v88 mo_heads mo_late mo_ran mo_program u46 u66 mo_stitches := h_mo
      have h_mo_colour := (hn 20 (by decide)).trans h_mo_colour
      have h_mo_layer := (hn 21 (by decide)).trans h_mo_layer
      have h_mo_isColumn := (hn 22 (by decide)).trans h_mo_isColumn
      have h_mo_corners := (hn 23 (by decide)).trans h_mo_corners
      have h_mo_cornerX := (hn 24 (by decide)).trans h_mo_cornerX
      have h_mo_cornerY := (hn 25 (by decide)).trans h_mo_cornerY
      have h_mo_density := (hn 26 (by decide)).trans h_mo_density
      have h_mo_longest := (hn 27 (by decide)).trans h_mo_longest
      have h_mo_shift := (hn 28 (by decide)).trans h_mo_shift
      have h_mo_pull := (hn 29 (by decide)).trans h_mo_pull
      have h_mo_hasUnderlay := (hn 30 (by decide)).trans h_mo_hasUnderlay
      have h_mo_pointX := (hn 31 (by decide)).trans h_mo_pointX
      have h_mo_pointY := (hn 32 (by decide)).trans h_mo_pointY
      have h_mo_crossing := (hn 33 (by decide)).trans h_mo_crossing
      have h_mo_kind := (hn 34 (by decide)).trans h_mo_kind
      have h_mo_byX := (hn 35 (by decide)).trans h_mo_byX
      have h_mo_byY := (hn 36 (by decide)).trans h_mo_byY
      have h_mo_fieldOf := (hn 37 (by decide)).trans h_mo_fieldOf
      have h_mo_isSewn := (hn 38 (by decide)).trans h_mo_isSewn
      have h_mo_bytes := (hn 40 (by decide)).trans h_mo_bytes
      have hbg : ∀ i : Nat, i ≠ 19 → i ≠ 31 → i ≠ 32 → i ≠ 33 → i ≠ 34 → i ≠ 35 → i ≠ 36 → i ≠ 37 → i ≠ 38 → i ≠ 40 → σ89 i = σ0 i := fun i a0 a1 a2 a3 a4 a5 a6 a7 a8 a9 => (hn i a0).trans (hbg i a0 a1 a2 a3 a4 a5 a6 a7 a8 a9)
      refine lv_aload_n hx hb dX7_write_218 rfl (lv_at hl 0 rfl) ?_
      refine zget hx hb inlX7 rfl 30 rfl zk_t4_143 hts hown hK hH hk_mo h_mo rfl dX7_write_219 ?_
      cases hf
      exact zreti hx hb hr hlocks hQ hH ⟨rfl, h_mo, h_mo_pointX, h_mo_pointY, h_mo_crossing, h_mo_kind, h_mo_byX, h_mo_byY, h_mo_fieldOf, h_mo_isSewn, h_mo_bytes, hbg⟩ dX7_write_222
    · replace hf := (if_pos c51).symm.trans hf
      refine lv_iconst (v := zI 0) hx hb dX7_write_21 (by decide +kernel) ?_
      cases hf
      exact zreti hx hb hr hlocks hQ hH ⟨rfl, h_mo, h_mo_pointX, h_mo_pointY, h_mo_crossing, h_mo_kind, h_mo_byX, h_mo_byY, h_mo_fieldOf, h_mo_isSewn, h_mo_bytes, hbg⟩ dX7_write_22
  have J10 : ∀ (mo_pointX : Int → Int) (mo_pointY : Int → Int) (mo_points : Int) (mo_crossing : Int → Int) (mo_crossings : Int) (mo_isKnown : Int) (mo_commands : Int) (mo_kind : Int → Int) (mo_byX : Int → Int) (mo_byY : Int → Int) (mo_fieldOf : Int → Int) (mo_needleX : Int) (mo_needleY : Int) (mo_isSewn : Int → Int) (mo_hasFile : Int) (mo_format : Int) (mo_length : Int) (mo_bytes : Int → Int) (mo_thrown : Int) (mo_rowY : Int) (x1 : Int) (σ : Nat → va_E) (H : Heap) (locs : List Loc) (hH : zH D ad N (zFr ad N s.heap.size) s.heap σ H locs) (h_mo : σ 19 = oC_mo ad mo_fields mo_bound mo_points mo_crossings mo_isKnown mo_commands mo_needleX mo_needleY mo_hasFile mo_format mo_length mo_heads mo_late mo_ran mo_program mo_thrown mo_rowY mo_stitches) (h_mo_colour : σ 20 = .inl (cI, 8, .inl (zA mo_colour))) (h_mo_layer : σ 21 = .inl (cI, 8, .inl (zA mo_layer))) (h_mo_isColumn : σ 22 = .inl (cZ, 8, .inl (zA mo_isColumn))) (h_mo_corners : σ 23 = .inl (cI, 8, .inl (zA mo_corners))) (h_mo_cornerX : σ 24 = .inl (cI, 64, .inl (zA mo_cornerX))) (h_mo_cornerY : σ 25 = .inl (cI, 64, .inl (zA mo_cornerY))) (h_mo_density : σ 26 = .inl (cI, 8, .inl (zA mo_density))) (h_mo_longest : σ 27 = .inl (cI, 8, .inl (zA mo_longest))) (h_mo_shift : σ 28 = .inl (cI, 8, .inl (zA mo_shift))) (h_mo_pull : σ 29 = .inl (cI, 8, .inl (zA mo_pull))) (h_mo_hasUnderlay : σ 30 = .inl (cZ, 8, .inl (zA mo_hasUnderlay))) (h_mo_pointX : σ 31 = .inl (cI, 4096, .inl (zA mo_pointX))) (h_mo_pointY : σ 32 = .inl (cI, 4096, .inl (zA mo_pointY))) (h_mo_crossing : σ 33 = .inl (cI, 8, .inl (zA mo_crossing))) (h_mo_kind : σ 34 = .inl (cI, 20000, .inl (zA mo_kind))) (h_mo_byX : σ 35 = .inl (cI, 20000, .inl (zA mo_byX))) (h_mo_byY : σ 36 = .inl (cI, 20000, .inl (zA mo_byY))) (h_mo_fieldOf : σ 37 = .inl (cI, 20000, .inl (zA mo_fieldOf))) (h_mo_isSewn : σ 38 = .inl (cZ, 8, .inl (zA mo_isSewn))) (h_mo_bytes : σ 40 = .inl (cI, 70000, .inl (zA mo_bytes))) (hbg : ∀ i : Nat, i ≠ 19 → i ≠ 31 → i ≠ 32 → i ≠ 33 → i ≠ 34 → i ≠ 35 → i ≠ 36 → i ≠ 37 → i ≠ 38 → i ≠ 40 → σ i = σ0 i) (ls : Array Slot) (hl : lv_has ls 8 [(0, .ref (ad 19)), (1, .int (zI x1))]), f_X7_write_10 mo_fields mo_colour mo_layer mo_isColumn mo_corners mo_cornerX mo_cornerY mo_density mo_longest mo_shift mo_pull mo_hasUnderlay mo_bound mo_pointX mo_pointY mo_points mo_crossing mo_crossings mo_isKnown mo_commands mo_kind mo_byX mo_byY mo_fieldOf mo_needleX mo_needleY mo_isSewn mo_hasFile mo_format mo_length mo_bytes mo_thrown mo_rowY x1 = some (R0, R_mo_pointX, R_mo_pointY, R_mo_points, R_mo_crossing, R_mo_crossings, R_mo_isKnown, R_mo_commands, R_mo_kind, R_mo_byX, R_mo_byY, R_mo_fieldOf, R_mo_needleX, R_mo_needleY, R_mo_isSewn, R_mo_hasFile, R_mo_format, R_mo_length, R_mo_bytes, R_mo_thrown, R_mo_rowY) → W p l e rmX7_write s m args below meth c H locs 0 0 Q (F0 m 10 ls [.ref (ad 19)]) := by
    intro mo_pointX mo_pointY mo_points mo_crossing mo_crossings mo_isKnown mo_commands mo_kind mo_byX mo_byY mo_fieldOf mo_needleX mo_needleY mo_isSewn mo_hasFile mo_format mo_length mo_bytes mo_thrown mo_rowY x1 σ H locs hH h_mo h_mo_colour h_mo_layer h_mo_isColumn h_mo_corners h_mo_cornerX h_mo_cornerY h_mo_density h_mo_longest h_mo_shift h_mo_pull h_mo_hasUnderlay h_mo_pointX h_mo_pointY h_mo_crossing h_mo_kind h_mo_byX h_mo_byY h_mo_fieldOf h_mo_isSewn h_mo_bytes hbg ls hl hf
    unfold f_X7_write_10 at hf
    refine lv_iconst (v := zI 1) hx hb dX7_write_10 (by decide +kernel) ?_
    refine lv_goto (tgt := 15) hx hb dX7_write_11 (by decide) ?_
    exact J15 mo_pointX mo_pointY mo_points mo_crossing mo_crossings mo_isKnown mo_commands mo_kind mo_byX mo_byY mo_fieldOf mo_needleX mo_needleY mo_isSewn mo_hasFile mo_format mo_length mo_bytes mo_thrown mo_rowY x1 1 _ _ _ hH h_mo h_mo_colour h_mo_layer h_mo_isColumn h_mo_corners h_mo_cornerX h_mo_cornerY h_mo_density h_mo_longest h_mo_shift h_mo_pull h_mo_hasUnderlay h_mo_pointX h_mo_pointY h_mo_crossing h_mo_kind h_mo_byX h_mo_byY h_mo_fieldOf h_mo_isSewn h_mo_bytes hbg _ (lv_sub hl [0, 1] rfl) hf
  unfold f_X7_write at hf
  refine lv_aload_n hx hb dX7_write_0 rfl (lv_at hl 0 rfl) ?_
  refine lv_iload_n hx hb dX7_write_1 rfl (lv_at hl 1 rfl) ?_
  obtain ⟨k90, hf⟩ := zck_some hf
  refine lz_if_eq (tgt := 10) hx hb k90 dX7_write_2 (by decide) (fun c91 => ?_) (fun c91 => ?_)
  · replace hf := (if_pos c91).symm.trans hf
    exact J10 mo_pointX mo_pointY mo_points mo_crossing mo_crossings mo_isKnown mo_commands mo_kind mo_byX mo_byY mo_fieldOf mo_needleX mo_needleY mo_isSewn mo_hasFile mo_format mo_length mo_bytes mo_thrown mo_rowY p1 _ _ _ hH h_mo h_mo_colour h_mo_layer h_mo_isColumn h_mo_corners h_mo_cornerX h_mo_cornerY h_mo_density h_mo_longest h_mo_shift h_mo_pull h_mo_hasUnderlay h_mo_pointX h_mo_pointY h_mo_crossing h_mo_kind h_mo_byX h_mo_byY h_mo_fieldOf h_mo_isSewn h_mo_bytes hbg _ (lv_sub hl [0, 1] rfl) hf
  · replace hf := (if_neg c91).symm.trans hf
    refine lv_iload_n hx hb dX7_write_5 rfl (lv_at hl 1 rfl) ?_
    refine lv_iconst (v := zI 1) hx hb dX7_write_6 (by decide +kernel) ?_
    obtain ⟨k92, hf⟩ := zck_some hf
    refine lz_icmp_ne (tgt := 14) hx hb ⟨k92, by decide⟩ dX7_write_7 (by decide) (fun c93 => ?_) (fun c93 => ?_)
    · replace hf := (if_neg c93).symm.trans hf
      refine lv_iconst (v := zI 0) hx hb dX7_write_14 (by decide +kernel) ?_
      exact J15 mo_pointX mo_pointY mo_points mo_crossing mo_crossings mo_isKnown mo_commands mo_kind mo_byX mo_byY mo_fieldOf mo_needleX mo_needleY mo_isSewn mo_hasFile mo_format mo_length mo_bytes mo_thrown mo_rowY p1 0 _ _ _ hH h_mo h_mo_colour h_mo_layer h_mo_isColumn h_mo_corners h_mo_cornerX h_mo_cornerY h_mo_density h_mo_longest h_mo_shift h_mo_pull h_mo_hasUnderlay h_mo_pointX h_mo_pointY h_mo_crossing h_mo_kind h_mo_byX h_mo_byY h_mo_fieldOf h_mo_isSewn h_mo_bytes hbg _ (lv_sub hl [0, 1] rfl) hf
    · replace hf := (if_pos c93).symm.trans hf
      exact J10 mo_pointX mo_pointY mo_points mo_crossing mo_crossings mo_isKnown mo_commands mo_kind mo_byX mo_byY mo_fieldOf mo_needleX mo_needleY mo_isSewn mo_hasFile mo_format mo_length mo_bytes mo_thrown mo_rowY p1 _ _ _ hH h_mo h_mo_colour h_mo_layer h_mo_isColumn h_mo_corners h_mo_cornerX h_mo_cornerY h_mo_density h_mo_longest h_mo_shift h_mo_pull h_mo_hasUnderlay h_mo_pointX h_mo_pointY h_mo_crossing h_mo_kind h_mo_byX h_mo_byY h_mo_fieldOf h_mo_isSewn h_mo_bytes hbg _ (lv_sub hl [0, 1] rfl) hf
abbrev rmX7_byteAt : Room := { frames := 1, cells := 0, slots := 0, locals := 22 }
theorem hd_X7_byteAt : yX7_byteAt.cls = RX7 ∧ yX7_byteAt.cls ≠ "java/lang/invoke/MethodHandle" ∧ yX7_byteAt.cls ≠ "java/lang/invoke/VarHandle" ∧ (parseMethodDescriptor yX7_byteAt.desc).map (fun d => d.parameters.length) = some 1 := by decide +kernel
set_option maxHeartbeats 4000000 in
set_option maxRecDepth 100000 in
theorem c_X7_byteAt {l : Launch} {D : va_G} {cI cZ cF cL cD : ClassId} {ad : Nat → Nat} {N : Nat} (hI : ∀ i j, i < N → j < N → ad i = ad j → i = j) (hN : 46 ≤ N) {σ0 : Nat → va_E} {sz : Nat} {mo_fields : Int} {mo_bound : Int} {mo_points : Int} {mo_crossings : Int} {mo_isKnown : Int} {mo_commands : Int} {mo_needleX : Int} {mo_needleY : Int} {mo_hasFile : Int} {mo_format : Int} {mo_length : Int} {mo_bytes : Int → Int} {mo_heads : Int} {mo_late : Int} {mo_ran : Int} {mo_program : Int} {mo_thrown : Int} {mo_rowY : Int} {mo_stitches : Int} {p1 : Int} {R0 : Int} {R_mo_thrown : Int} (h_mo : σ0 19 = oC_mo ad mo_fields mo_bound mo_points mo_crossings mo_isKnown mo_commands mo_needleX mo_needleY mo_hasFile mo_format mo_length mo_heads mo_late mo_ran mo_program mo_thrown mo_rowY mo_stitches) (h_mo_bytes : σ0 40 = .inl (cI, 70000, .inl (zA mo_bytes))) (hf : f_X7_byteAt mo_length mo_bytes mo_thrown p1 = some (R0, R_mo_thrown)) :
    Met l yX7_byteAt (Cond.code yX7_byteAt cX7_byteAt 2 (some .int) :: wsL_law) rmX7_byteAt (zPre D ad N (zT cI cZ cF cL cD) σ0 sz [.ref (ad 19), .int (zI p1)]) (zQi D ad N sz (fun r σ' => r = zI R0 ∧ σ' 19 = oC_mo ad mo_fields mo_bound mo_points mo_crossings mo_isKnown mo_commands mo_needleX mo_needleY mo_hasFile mo_format mo_length mo_heads mo_late mo_ran mo_program R_mo_thrown mo_rowY mo_stitches ∧ ∀ i : Nat, i ≠ 19 → σ' i = σ0 i)) 0 0 (zFr ad N sz) := by
  refine zMet hI (plainFor_of_name (by decide)) (Nat.le_of_ble_eq_true rfl) ⟨rfl, rfl⟩ ?_
  intro p e s m args below meth c Q hx hb hr hlocks hml hown hts hK hsz hQ hH hA ls hl
  subst hsz
  have hk_mo : 19 < N := by omega
  have hk_mo_bytes : 40 < N := by omega
  have hl : lv_has ls 2 [(0, .ref (ad 19)), (1, .int (zI p1))] := hl
  have hbg : ∀ i : Nat, i ≠ 19 → σ0 i = σ0 i := fun _ _ => rfl
  unfold f_X7_byteAt at hf
  refine lv_aload_n hx hb dX7_byteAt_0 rfl (lv_at hl 0 rfl) ?_
  refine lv_iload_n hx hb dX7_byteAt_1 rfl (lv_at hl 1 rfl) ?_
  refine lv_iconst (v := zI 0) hx hb dX7_byteAt_2 (by decide +kernel) ?_
  refine lv_aload_n hx hb dX7_byteAt_3 rfl (lv_at hl 0 rfl) ?_
  refine zget hx hb inlX7 rfl 30 rfl zk_t4_143 hts hown hK hH hk_mo h_mo rfl dX7_byteAt_4 ?_
  refine lv_iconst (v := zI 1) hx hb dX7_byteAt_7 (by decide +kernel) ?_
  refine lz_isub hx hb dX7_byteAt_8 ?_
  obtain ⟨r1, k2, hf⟩ := zb1_some hf
  refine zcSi (As := [.int (zI p1), .int (zI 0), .int (zI (mo_length - 1))]) (rest := [.ref (ad 19)]) hx hb hml hown hts hl.1 hK hH hA (c_X7_in hI hN   k2) zk_t5_8 zk_t5_9 zk_t1_6 zk_t5_10 hd_X7_in rfl ⟨rfl, rfl, Nat.le_of_ble_eq_true rfl, Nat.le_of_ble_eq_true rfl⟩ ⟨Nat.zero_le _, Nat.zero_le _⟩ rfl (Nat.le_of_ble_eq_true rfl) dX7_byteAt_9 (fun q4 σ3 Hσ3 lσ3 hp hH => ?_)
  obtain ⟨hr1, hs1⟩ := hp; subst hr1; rw [hs1] at hH
  obtain ⟨r5, u6, k7, hf⟩ := zb2_some hf
  refine zcVi (C := RX7) (As := [.int (zI r1)]) (rest := []) hx hb hml hown hts hl.1 hK hH hA (c_X7_asks hI hN  h_mo k7) zk_t5_11 zk_t5_13 zk_s2_13 zk_t1_6 zk_t5_14 hd_X7_asks rfl ⟨rfl, rfl, Nat.le_of_ble_eq_true rfl, Nat.le_of_ble_eq_true rfl⟩ ⟨Nat.zero_le _, Nat.zero_le _⟩ hk_mo h_mo rfl rfl rfl (Nat.le_of_ble_eq_true rfl) dX7_byteAt_12 (fun q9 σ8 Hσ8 lσ8 hp hH => ?_)
  obtain ⟨hr1, h_mo, hn⟩ := hp
  subst hr1
  have h_mo_bytes := (hn 40 (by decide)).trans h_mo_bytes
  have hbg : ∀ i : Nat, i ≠ 19 → σ8 i = σ0 i := fun i a0 => (hn i a0).trans (hbg i a0)
  obtain ⟨k10, hf⟩ := zck_some hf
  refine lz_if_eq (tgt := 27) hx hb k10 dX7_byteAt_15 (by decide) (fun c11 => ?_) (fun c11 => ?_)
  · replace hf := (if_pos c11).symm.trans hf
    refine lv_iconst (v := zI 0) hx hb dX7_byteAt_27 (by decide +kernel) ?_
    cases hf
    exact zreti hx hb hr hlocks hQ hH ⟨rfl, h_mo, hbg⟩ dX7_byteAt_28
  · replace hf := (if_neg c11).symm.trans hf
    refine lv_aload_n hx hb dX7_byteAt_18 rfl (lv_at hl 0 rfl) ?_
    refine zget hx hb inlX7 rfl 31 rfl zk_t4_144 hts hown hK hH hk_mo h_mo rfl dX7_byteAt_19 ?_
    refine lv_iload_n hx hb dX7_byteAt_22 rfl (lv_at hl 1 rfl) ?_
    obtain ⟨k12, hf⟩ := zck_some hf
    refine ziald hx hb hK hH hk_mo_bytes 0 h_mo_bytes rfl k12 rfl dX7_byteAt_23 ?_
    refine lv_goto (tgt := 28) hx hb dX7_byteAt_24 (by decide) ?_
    cases hf
    exact zreti hx hb hr hlocks hQ hH ⟨rfl, h_mo, hbg⟩ dX7_byteAt_28
abbrev rmX7_damage : Room := { frames := 1, cells := 0, slots := 0, locals := 22 }
theorem hd_X7_damage : yX7_damage.cls = RX7 ∧ yX7_damage.cls ≠ "java/lang/invoke/MethodHandle" ∧ yX7_damage.cls ≠ "java/lang/invoke/VarHandle" ∧ (parseMethodDescriptor yX7_damage.desc).map (fun d => d.parameters.length) = some 2 := by decide +kernel
set_option maxHeartbeats 4000000 in
set_option maxRecDepth 100000 in
theorem c_X7_damage {l : Launch} {D : va_G} {cI cZ cF cL cD : ClassId} {ad : Nat → Nat} {N : Nat} (hI : ∀ i j, i < N → j < N → ad i = ad j → i = j) (hN : 46 ≤ N) {σ0 : Nat → va_E} {sz : Nat} {mo_fields : Int} {mo_bound : Int} {mo_points : Int} {mo_crossings : Int} {mo_isKnown : Int} {mo_commands : Int} {mo_needleX : Int} {mo_needleY : Int} {mo_hasFile : Int} {mo_format : Int} {mo_length : Int} {mo_bytes : Int → Int} {mo_heads : Int} {mo_late : Int} {mo_ran : Int} {mo_program : Int} {mo_thrown : Int} {mo_rowY : Int} {mo_stitches : Int} {p1 : Int} {p2 : Int} {R0 : Int} {R_mo_bytes : Int → Int} {R_mo_thrown : Int} (h_mo : σ0 19 = oC_mo ad mo_fields mo_bound mo_points mo_crossings mo_isKnown mo_commands mo_needleX mo_needleY mo_hasFile mo_format mo_length mo_heads mo_late mo_ran mo_program mo_thrown mo_rowY mo_stitches) (h_mo_bytes : σ0 40 = .inl (cI, 70000, .inl (zA mo_bytes))) (hf : f_X7_damage mo_length mo_bytes mo_thrown p1 p2 = some (R0, R_mo_bytes, R_mo_thrown)) :
    Met l yX7_damage (Cond.code yX7_damage cX7_damage 4 (some .int) :: wsL_law) rmX7_damage (zPre D ad N (zT cI cZ cF cL cD) σ0 sz [.ref (ad 19), .int (zI p1), .int (zI p2)]) (zQi D ad N sz (fun r σ' => r = zI R0 ∧ σ' 19 = oC_mo ad mo_fields mo_bound mo_points mo_crossings mo_isKnown mo_commands mo_needleX mo_needleY mo_hasFile mo_format mo_length mo_heads mo_late mo_ran mo_program R_mo_thrown mo_rowY mo_stitches ∧ σ' 40 = .inl (cI, 70000, .inl (zA R_mo_bytes)) ∧ ∀ i : Nat, i ≠ 19 → i ≠ 40 → σ' i = σ0 i)) 0 0 (zFr ad N sz) := by
  refine zMet hI (plainFor_of_name (by decide)) (Nat.le_of_ble_eq_true rfl) ⟨rfl, rfl⟩ ?_
  intro p e s m args below meth c Q hx hb hr hlocks hml hown hts hK hsz hQ hH hA ls hl
  subst hsz
  have hk_mo : 19 < N := by omega
  have hk_mo_bytes : 40 < N := by omega
  have hl : lv_has ls 4 [(0, .ref (ad 19)), (1, .int (zI p1)), (2, .int (zI p2))] := hl
  have hbg : ∀ i : Nat, i ≠ 19 → i ≠ 40 → σ0 i = σ0 i := fun _ _ _ => rfl
  unfold f_X7_damage at hf
  refine lv_aload_n hx hb dX7_damage_0 rfl (lv_at hl 0 rfl) ?_
  refine lv_iload_n hx hb dX7_damage_1 rfl (lv_at hl 1 rfl) ?_
  refine lv_iconst (v := zI 0) hx hb dX7_damage_2 (by decide +kernel) ?_
  refine lv_aload_n hx hb dX7_damage_3 rfl (lv_at hl 0 rfl) ?_
  refine zget hx hb inlX7 rfl 30 rfl zk_t4_143 hts hown hK hH hk_mo h_mo rfl dX7_damage_4 ?_
  refine lv_iconst (v := zI 1) hx hb dX7_damage_7 (by decide +kernel) ?_
  refine lz_isub hx hb dX7_damage_8 ?_
  obtain ⟨r1, k2, hf⟩ := zb1_some hf
  refine zcSi (As := [.int (zI p1), .int (zI 0), .int (zI (mo_length - 1))]) (rest := [.ref (ad 19)]) hx hb hml hown hts hl.1 hK hH hA (c_X7_in hI hN   k2) zk_t5_8 zk_t5_9 zk_t1_6 zk_t5_10 hd_X7_in rfl ⟨rfl, rfl, Nat.le_of_ble_eq_true rfl, Nat.le_of_ble_eq_true rfl⟩ ⟨Nat.zero_le _, Nat.zero_le _⟩ rfl (Nat.le_of_ble_eq_true rfl) dX7_damage_9 (fun q4 σ3 Hσ3 lσ3 hp hH => ?_)
  obtain ⟨hr1, hs1⟩ := hp; subst hr1; rw [hs1] at hH
  obtain ⟨r5, u6, k7, hf⟩ := zb2_some hf
  refine zcVi (C := RX7) (As := [.int (zI r1)]) (rest := []) hx hb hml hown hts hl.1 hK hH hA (c_X7_asks hI hN  h_mo k7) zk_t5_11 zk_t5_13 zk_s2_13 zk_t1_6 zk_t5_14 hd_X7_asks rfl ⟨rfl, rfl, Nat.le_of_ble_eq_true rfl, Nat.le_of_ble_eq_true rfl⟩ ⟨Nat.zero_le _, Nat.zero_le _⟩ hk_mo h_mo rfl rfl rfl (Nat.le_of_ble_eq_true rfl) dX7_damage_12 (fun q9 σ8 Hσ8 lσ8 hp hH => ?_)
  obtain ⟨hr1, h_mo, hn⟩ := hp
  subst hr1
  have h_mo_bytes := (hn 40 (by decide)).trans h_mo_bytes
  have hbg : ∀ i : Nat, i ≠ 19 → i ≠ 40 → σ8 i = σ0 i := fun i a0 a1 => (hn i a0).trans (hbg i a0 a1)
  obtain ⟨k10, hf⟩ := zck_some hf
  refine lz_if_ne (tgt := 20) hx hb k10 dX7_damage_15 (by decide) (fun c11 => ?_) (fun c11 => ?_)
  · replace hf := (if_neg c11).symm.trans hf
    refine lv_iload_n hx hb dX7_damage_20 rfl (lv_at hl 2 rfl) ?_
    refine lv_iconst (v := zI 0) hx hb dX7_damage_21 (by decide +kernel) ?_
    refine lv_sipush (v := zI 255) hx hb dX7_damage_22 (by decide +kernel) ?_
    obtain ⟨r12, k13, hf⟩ := zb1_some hf
    refine zcSi (As := [.int (zI p2), .int (zI 0), .int (zI 255)]) (rest := []) hx hb hml hown hts hl.1 hK hH hA (c_X7_in hI hN   k13) zk_t5_8 zk_t5_9 zk_t1_6 zk_t5_10 hd_X7_in rfl ⟨rfl, rfl, Nat.le_of_ble_eq_true rfl, Nat.le_of_ble_eq_true rfl⟩ ⟨Nat.zero_le _, Nat.zero_le _⟩ rfl (Nat.le_of_ble_eq_true rfl) dX7_damage_25 (fun q15 σ14 Hσ14 lσ14 hp hH => ?_)
    obtain ⟨hr1, hs1⟩ := hp; subst hr1; rw [hs1] at hH
    obtain ⟨k16, hf⟩ := zck_some hf
    refine lz_if_ne (tgt := 37) hx hb k16 dX7_damage_28 (by decide) (fun c17 => ?_) (fun c17 => ?_)
    · replace hf := (if_neg c17).symm.trans hf
      refine lv_aload_n hx hb dX7_damage_37 rfl (lv_at hl 0 rfl) ?_
      refine zget hx hb inlX7 rfl 31 rfl zk_t4_144 hts hown hK hH hk_mo h_mo rfl dX7_damage_38 ?_
      refine lv_iload_n hx hb dX7_damage_41 rfl (lv_at hl 1 rfl) ?_
      obtain ⟨k18, hf⟩ := zck_some hf
      refine ziald hx hb hK hH hk_mo_bytes 0 h_mo_bytes rfl k18 rfl dX7_damage_42 ?_
      obtain ⟨v19, ev19, hf⟩ := zlt_some hf
      refine lz_nm ev19 ?_
      refine lv_istore_n (lv' := [(3, .int (zI v19)), (0, .ref (ad 19)), (1, .int (zI p1)), (2, .int (zI p2))]) hx hb dX7_damage_43 rfl hl (by decide) rfl (fun ls hl => ?_)
      refine lv_aload_n hx hb dX7_damage_44 rfl (lv_at hl 1 rfl) ?_
      refine zget hx hb inlX7 rfl 31 rfl zk_t4_144 hts hown hK hH hk_mo h_mo rfl dX7_damage_45 ?_
      refine lv_iload_n hx hb dX7_damage_48 rfl (lv_at hl 2 rfl) ?_
      refine lv_iload_n hx hb dX7_damage_49 rfl (lv_at hl 3 rfl) ?_
      obtain ⟨k20, hf⟩ := zck_some hf
      obtain ⟨a22, ea22, hf⟩ := zlt_some hf
      refine ziast hx hb hK hH hk_mo_bytes 0 h_mo_bytes rfl k20 rfl dX7_damage_50 (fun σ21 Hσ21 lσ21 h_mo_bytes hn hH => ?_)
      rw [← ea22] at h_mo_bytes
      have h_mo := (hn 19 (by decide)).trans h_mo
      have hbg : ∀ i : Nat, i ≠ 19 → i ≠ 40 → σ21 i = σ0 i := fun i a0 a1 => (hn i a1).trans (hbg i a0 a1)
      refine lv_iload_n hx hb dX7_damage_51 rfl (lv_at hl 0 rfl) ?_
      cases hf
      exact zreti hx hb hr hlocks hQ hH ⟨rfl, h_mo, h_mo_bytes, hbg⟩ dX7_damage_52
    · replace hf := (if_pos c17).symm.trans hf
      refine lv_aload_n hx hb dX7_damage_31 rfl (lv_at hl 0 rfl) ?_
      refine lv_iconst (v := zI 2) hx hb dX7_damage_32 (by decide +kernel) ?_
      obtain ⟨r23, u24, k25, hf⟩ := zb2_some hf
      refine zcVi (C := RX7) (As := [.int (zI 2)]) (rest := []) hx hb hml hown hts hl.1 hK hH hA (c_X7_fails hI hN  h_mo k25) zk_t5_15 zk_t5_17 zk_s2_14 zk_t1_6 zk_t5_18 hd_X7_fails rfl ⟨rfl, rfl, Nat.le_of_ble_eq_true rfl, Nat.le_of_ble_eq_true rfl⟩ ⟨Nat.zero_le _, Nat.zero_le _⟩ hk_mo h_mo rfl rfl rfl (Nat.le_of_ble_eq_true rfl) dX7_damage_33 (fun q27 σ26 Hσ26 lσ26 hp hH => ?_)
      obtain ⟨hr1, h_mo, hn⟩ := hp
      subst hr1
      have h_mo_bytes := (hn 40 (by decide)).trans h_mo_bytes
      have hbg : ∀ i : Nat, i ≠ 19 → i ≠ 40 → σ26 i = σ0 i := fun i a0 a1 => (hn i a0).trans (hbg i a0 a1)
      cases hf
      exact zreti hx hb hr hlocks hQ hH ⟨rfl, h_mo, h_mo_bytes, hbg⟩ dX7_damage_36
  · replace hf := (if_pos c11).symm.trans hf
    refine lv_iconst (v := zI 0) hx hb dX7_damage_18 (by decide +kernel) ?_
    cases hf
    exact zreti hx hb hr hlocks hQ hH ⟨rfl, h_mo, h_mo_bytes, hbg⟩ dX7_damage_19
abbrev rmX7_shorten : Room := { frames := 1, cells := 0, slots := 0, locals := 22 }
theorem hd_X7_shorten : yX7_shorten.cls = RX7 ∧ yX7_shorten.cls ≠ "java/lang/invoke/MethodHandle" ∧ yX7_shorten.cls ≠ "java/lang/invoke/VarHandle" ∧ (parseMethodDescriptor yX7_shorten.desc).map (fun d => d.parameters.length) = some 1 := by decide +kernel
set_option maxHeartbeats 4000000 in
set_option maxRecDepth 100000 in
theorem c_X7_shorten {l : Launch} {D : va_G} {cI cZ cF cL cD : ClassId} {ad : Nat → Nat} {N : Nat} (hI : ∀ i j, i < N → j < N → ad i = ad j → i = j) (hN : 46 ≤ N) {σ0 : Nat → va_E} {sz : Nat} {mo_fields : Int} {mo_bound : Int} {mo_points : Int} {mo_crossings : Int} {mo_isKnown : Int} {mo_commands : Int} {mo_needleX : Int} {mo_needleY : Int} {mo_hasFile : Int} {mo_format : Int} {mo_length : Int} {mo_heads : Int} {mo_late : Int} {mo_ran : Int} {mo_program : Int} {mo_thrown : Int} {mo_rowY : Int} {mo_stitches : Int} {p1 : Int} {R0 : Int} {R_mo_length : Int} {R_mo_thrown : Int} (h_mo : σ0 19 = oC_mo ad mo_fields mo_bound mo_points mo_crossings mo_isKnown mo_commands mo_needleX mo_needleY mo_hasFile mo_format mo_length mo_heads mo_late mo_ran mo_program mo_thrown mo_rowY mo_stitches) (hf : f_X7_shorten mo_length mo_thrown p1 = some (R0, R_mo_length, R_mo_thrown)) :
    Met l yX7_shorten (Cond.code yX7_shorten cX7_shorten 3 (some .int) :: wsL_law) rmX7_shorten (zPre D ad N (zT cI cZ cF cL cD) σ0 sz [.ref (ad 19), .int (zI p1)]) (zQi D ad N sz (fun r σ' => r = zI R0 ∧ σ' 19 = oC_mo ad mo_fields mo_bound mo_points mo_crossings mo_isKnown mo_commands mo_needleX mo_needleY mo_hasFile mo_format R_mo_length mo_heads mo_late mo_ran mo_program R_mo_thrown mo_rowY mo_stitches ∧ ∀ i : Nat, i ≠ 19 → σ' i = σ0 i)) 0 0 (zFr ad N sz) := by
  refine zMet hI (plainFor_of_name (by decide)) (Nat.le_of_ble_eq_true rfl) ⟨rfl, rfl⟩ ?_
  intro p e s m args below meth c Q hx hb hr hlocks hml hown hts hK hsz hQ hH hA ls hl
  subst hsz
  have hk_mo : 19 < N := by omega
  have hl : lv_has ls 3 [(0, .ref (ad 19)), (1, .int (zI p1))] := hl
  have hbg : ∀ i : Nat, i ≠ 19 → σ0 i = σ0 i := fun _ _ => rfl
  unfold f_X7_shorten at hf
  refine lv_aload_n hx hb dX7_shorten_0 rfl (lv_at hl 0 rfl) ?_
  refine lv_iload_n hx hb dX7_shorten_1 rfl (lv_at hl 1 rfl) ?_
  refine lv_iconst (v := zI 0) hx hb dX7_shorten_2 (by decide +kernel) ?_
  refine lv_aload_n hx hb dX7_shorten_3 rfl (lv_at hl 0 rfl) ?_
  refine zget hx hb inlX7 rfl 30 rfl zk_t4_143 hts hown hK hH hk_mo h_mo rfl dX7_shorten_4 ?_
  obtain ⟨r1, k2, hf⟩ := zb1_some hf
  refine zcSi (As := [.int (zI p1), .int (zI 0), .int (zI mo_length)]) (rest := [.ref (ad 19)]) hx hb hml hown hts hl.1 hK hH hA (c_X7_in hI hN   k2) zk_t5_8 zk_t5_9 zk_t1_6 zk_t5_10 hd_X7_in rfl ⟨rfl, rfl, Nat.le_of_ble_eq_true rfl, Nat.le_of_ble_eq_true rfl⟩ ⟨Nat.zero_le _, Nat.zero_le _⟩ rfl (Nat.le_of_ble_eq_true rfl) dX7_shorten_7 (fun q4 σ3 Hσ3 lσ3 hp hH => ?_)
  obtain ⟨hr1, hs1⟩ := hp; subst hr1; rw [hs1] at hH
  obtain ⟨r5, u6, k7, hf⟩ := zb2_some hf
  refine zcVi (C := RX7) (As := [.int (zI r1)]) (rest := []) hx hb hml hown hts hl.1 hK hH hA (c_X7_asks hI hN  h_mo k7) zk_t5_11 zk_t5_13 zk_s2_13 zk_t1_6 zk_t5_14 hd_X7_asks rfl ⟨rfl, rfl, Nat.le_of_ble_eq_true rfl, Nat.le_of_ble_eq_true rfl⟩ ⟨Nat.zero_le _, Nat.zero_le _⟩ hk_mo h_mo rfl rfl rfl (Nat.le_of_ble_eq_true rfl) dX7_shorten_10 (fun q9 σ8 Hσ8 lσ8 hp hH => ?_)
  obtain ⟨hr1, h_mo, hn⟩ := hp
  subst hr1
  have hbg : ∀ i : Nat, i ≠ 19 → σ8 i = σ0 i := fun i a0 => (hn i a0).trans (hbg i a0)
  obtain ⟨k10, hf⟩ := zck_some hf
  refine lz_if_ne (tgt := 18) hx hb k10 dX7_shorten_13 (by decide) (fun c11 => ?_) (fun c11 => ?_)
  · replace hf := (if_neg c11).symm.trans hf
    refine lv_aload_n hx hb dX7_shorten_18 rfl (lv_at hl 0 rfl) ?_
    refine zget hx hb inlX7 rfl 30 rfl zk_t4_143 hts hown hK hH hk_mo h_mo rfl dX7_shorten_19 ?_
    refine lv_istore_n (lv' := [(2, .int (zI mo_length)), (0, .ref (ad 19)), (1, .int (zI p1))]) hx hb dX7_shorten_22 rfl hl (by decide) rfl (fun ls hl => ?_)
    refine lv_aload_n hx hb dX7_shorten_23 rfl (lv_at hl 1 rfl) ?_
    refine lv_iload_n hx hb dX7_shorten_24 rfl (lv_at hl 2 rfl) ?_
    refine zput hx hb inlX7 tyX7 tyX7_ok nmX7 rfl 30 rfl zk_t4_143 rfl hts hown hK hH hk_mo h_mo rfl rfl rfl dX7_shorten_25 (fun σ12 Hσ12 lσ12 h_mo hn hH => ?_)
    have h_mo : σ12 19 = oC_mo ad mo_fields mo_bound mo_points mo_crossings mo_isKnown mo_commands mo_needleX mo_needleY mo_hasFile mo_format p1 mo_heads mo_late mo_ran mo_program u6 mo_rowY mo_stitches := h_mo
    have hbg : ∀ i : Nat, i ≠ 19 → σ12 i = σ0 i := fun i a0 => (hn i a0).trans (hbg i a0)
    refine lv_iload_n hx hb dX7_shorten_28 rfl (lv_at hl 0 rfl) ?_
    cases hf
    exact zreti hx hb hr hlocks hQ hH ⟨rfl, h_mo, hbg⟩ dX7_shorten_29
  · replace hf := (if_pos c11).symm.trans hf
    refine lv_iconst (v := zI 0) hx hb dX7_shorten_16 (by decide +kernel) ?_
    cases hf
    exact zreti hx hb hr hlocks hQ hH ⟨rfl, h_mo, hbg⟩ dX7_shorten_17
abbrev rmX7_isBad : Room := { frames := 1, cells := 0, slots := 0, locals := 22 }
theorem hd_X7_isBad : yX7_isBad.cls ≠ "java/lang/invoke/MethodHandle" ∧ yX7_isBad.cls ≠ "java/lang/invoke/VarHandle" ∧ (parseMethodDescriptor yX7_isBad.desc).map (fun d => d.parameters.length) = some 3 := by decide +kernel
set_option maxHeartbeats 4000000 in
set_option maxRecDepth 100000 in
theorem c_X7_isBad {l : Launch} {D : va_G} {cI cZ cF cL cD : ClassId} {ad : Nat → Nat} {N : Nat} (hI : ∀ i j, i < N → j < N → ad i = ad j → i = j) (hN : 46 ≤ N) {σ0 : Nat → va_E} {sz : Nat} {p0 : Int} {p1 : Int} {p2 : Int} {R0 : Int}  (hf : f_X7_isBad p0 p1 p2 = some R0) :
    Met l yX7_isBad (Cond.code yX7_isBad cX7_isBad 3 (some .boolean) :: wsL_law) rmX7_isBad (zPre D ad N (zT cI cZ cF cL cD) σ0 sz [.int (zI p0), .int (zI p1), .int (zI p2)]) (zQi D ad N sz (fun r σ' => r = zI R0 ∧ σ' = σ0)) 0 0 (zFr ad N sz) := by
  refine zMet hI (plainFor_of_name (by decide)) (Nat.le_of_ble_eq_true rfl) ⟨rfl, rfl⟩ ?_
  intro p e s m args below meth c Q hx hb hr hlocks hml hown hts hK hsz hQ hH hA ls hl
  subst hsz
  have hl : lv_has ls 3 [(0, .int (zI p0)), (1, .int (zI p1)), (2, .int (zI p2))] := hl
  have hbg : σ0 = σ0 := rfl
  unfold f_X7_isBad at hf
  refine lv_iload_n hx hb dX7_isBad_0 rfl (lv_at hl 0 rfl) ?_
  refine lv_iconst (v := zI 1) hx hb dX7_isBad_1 (by decide +kernel) ?_
  obtain ⟨k1, hf⟩ := zck_some hf
  refine lz_icmp_le (tgt := 17) hx hb ⟨k1, by decide⟩ dX7_isBad_2 (by decide) (fun c2 => ?_) (fun c2 => ?_)
  · replace hf := (if_pos c2).symm.trans hf
    refine lv_iload_n hx hb dX7_isBad_17 rfl (lv_at hl 1 rfl) ?_
    refine lv_iload_n hx hb dX7_isBad_18 rfl (lv_at hl 2 rfl) ?_
    refine lz_ineg hx hb dX7_isBad_19 ?_
    refine lv_iload_n hx hb dX7_isBad_20 rfl (lv_at hl 2 rfl) ?_
    obtain ⟨r3, k4, hf⟩ := zb1_some hf
    refine zcSi (As := [.int (zI p1), .int (zI (-p2)), .int (zI p2)]) (rest := []) hx hb hml hown hts hl.1 hK hH hA (c_X7_in hI hN   k4) zk_t5_8 zk_t5_9 zk_t1_6 zk_t5_10 hd_X7_in rfl ⟨rfl, rfl, Nat.le_of_ble_eq_true rfl, Nat.le_of_ble_eq_true rfl⟩ ⟨Nat.zero_le _, Nat.zero_le _⟩ rfl (Nat.le_of_ble_eq_true rfl) dX7_isBad_21 (fun q6 σ5 Hσ5 lσ5 hp hH => ?_)
    obtain ⟨hr1, hs1⟩ := hp; subst hr1; rw [hs1] at hH
    obtain ⟨k7, hf⟩ := zck_some hf
    refine lz_if_ne (tgt := 31) hx hb k7 dX7_isBad_24 (by decide) (fun c8 => ?_) (fun c8 => ?_)
    · replace hf := (if_neg c8).symm.trans hf
      refine lv_iconst (v := zI 0) hx hb dX7_isBad_31 (by decide +kernel) ?_
      cases hf
      exact zretz hx hb hr hlocks hQ hH ⟨rfl, hbg⟩ (z_nar _ (Or.inl rfl)) dX7_isBad_32
    · replace hf := (if_pos c8).symm.trans hf
      refine lv_iconst (v := zI 1) hx hb dX7_isBad_27 (by decide +kernel) ?_
      refine lv_goto (tgt := 32) hx hb dX7_isBad_28 (by decide) ?_
      cases hf
      exact zretz hx hb hr hlocks hQ hH ⟨rfl, hbg⟩ (z_nar _ (Or.inr rfl)) dX7_isBad_32
  · replace hf := (if_neg c2).symm.trans hf
    refine lv_iload_n hx hb dX7_isBad_5 rfl (lv_at hl 1 rfl) ?_
    obtain ⟨k9, hf⟩ := zck_some hf
    refine lz_if_eq (tgt := 13) hx hb k9 dX7_isBad_6 (by decide) (fun c10 => ?_) (fun c10 => ?_)
    · replace hf := (if_pos c10).symm.trans hf
      refine lv_iconst (v := zI 0) hx hb dX7_isBad_13 (by decide +kernel) ?_
      refine lv_goto (tgt := 32) hx hb dX7_isBad_14 (by decide) ?_
      cases hf
      exact zretz hx hb hr hlocks hQ hH ⟨rfl, hbg⟩ (z_nar _ (Or.inl rfl)) dX7_isBad_32
    · replace hf := (if_neg c10).symm.trans hf
      refine lv_iconst (v := zI 1) hx hb dX7_isBad_9 (by decide +kernel) ?_
      refine lv_goto (tgt := 32) hx hb dX7_isBad_10 (by decide) ?_
      cases hf
      exact zretz hx hb hr hlocks hQ hH ⟨rfl, hbg⟩ (z_nar _ (Or.inr rfl)) dX7_isBad_32
abbrev rmX7_faultAt : Room := { frames := 2, cells := 0, slots := 0, locals := 44 }
theorem hd_X7_faultAt : yX7_faultAt.cls = RX7 ∧ yX7_faultAt.cls ≠ "java/lang/invoke/MethodHandle" ∧ yX7_faultAt.cls ≠ "java/lang/invoke/VarHandle" ∧ (parseMethodDescriptor yX7_faultAt.desc).map (fun d => d.parameters.length) = some 1 := by decide +kernel
set_option maxHeartbeats 4000000 in
set_option maxRecDepth 100000 in
theorem c_X7_faultAt {l : Launch} {D : va_G} {cI cZ cF cL cD : ClassId} {ad : Nat → Nat} {N : Nat} (hI : ∀ i j, i < N → j < N → ad i = ad j → i = j) (hN : 46 ≤ N) {σ0 : Nat → va_E} {sz : Nat} {mo_fields : Int} {mo_bound : Int} {mo_points : Int} {mo_crossings : Int} {mo_isKnown : Int} {mo_commands : Int} {mo_needleX : Int} {mo_needleY : Int} {mo_hasFile : Int} {mo_format : Int} {mo_length : Int} {mo_bytes : Int → Int} {mo_heads : Int} {mo_late : Int} {mo_ran : Int} {mo_program : Int} {mo_thrown : Int} {mo_rowY : Int} {mo_stitches : Int} {p1 : Int} {R0 : Int} (h_mo : σ0 19 = oC_mo ad mo_fields mo_bound mo_points mo_crossings mo_isKnown mo_commands mo_needleX mo_needleY mo_hasFile mo_format mo_length mo_heads mo_late mo_ran mo_program mo_thrown mo_rowY mo_stitches) (h_mo_bytes : σ0 40 = .inl (cI, 70000, .inl (zA mo_bytes))) (hf : f_X7_faultAt mo_format mo_length mo_bytes p1 = some R0) :
    Met l yX7_faultAt (Cond.code yX7_faultAt cX7_faultAt 7 (some .int) :: wsL_law) rmX7_faultAt (zPre D ad N (zT cI cZ cF cL cD) σ0 sz [.ref (ad 19), .int (zI p1)]) (zQi D ad N sz (fun r σ' => r = zI R0 ∧ σ' = σ0)) 0 0 (zFr ad N sz) := by
  refine zMet hI (plainFor_of_name (by decide)) (Nat.le_of_ble_eq_true rfl) ⟨rfl, rfl⟩ ?_
  intro p e s m args below meth c Q hx hb hr hlocks hml hown hts hK hsz hQ hH hA ls hl
  subst hsz
  have hk_mo : 19 < N := by omega
  have hk_mo_bytes : 40 < N := by omega
  have hl : lv_has ls 7 [(0, .ref (ad 19)), (1, .int (zI p1))] := hl
  have hbg : σ0 = σ0 := rfl
  have J172 : ∀ (x2 : Int) (x3 : Int) (x4 : Int) (s0 : Int) (s1 : Int) (σ : Nat → va_E) (H : Heap) (locs : List Loc) (hH : zH D ad N (zFr ad N s.heap.size) s.heap σ H locs) (h_mo : σ 19 = oC_mo ad mo_fields mo_bound mo_points mo_crossings mo_isKnown mo_commands mo_needleX mo_needleY mo_hasFile mo_format mo_length mo_heads mo_late mo_ran mo_program mo_thrown mo_rowY mo_stitches) (h_mo_bytes : σ 40 = .inl (cI, 70000, .inl (zA mo_bytes))) (hbg : σ = σ0) (ls : Array Slot) (hl : lv_has ls 7 [(2, .int (zI x2)), (3, .int (zI x3)), (4, .int (zI x4))]), f_X7_faultAt_172 mo_format mo_length mo_bytes x2 x3 x4 s0 s1 = some R0 → W p l e rmX7_faultAt s m args below meth c H locs 0 0 Q (F0 m 172 ls [.int (zI s1), .int (zI s0)]) := by
    intro x2 x3 x4 s0 s1 σ H locs hH h_mo h_mo_bytes hbg ls hl hf
    unfold f_X7_faultAt_172 at hf
    refine lz_isub hx hb dX7_faultAt_172 ?_
    obtain ⟨v1, ev1, hf⟩ := zlt_some hf
    refine lz_nm ev1 ?_
    refine lv_istore (lv' := [(6, .int (zI v1)), (2, .int (zI x2)), (3, .int (zI x3)), (4, .int (zI x4))]) hx hb dX7_faultAt_173 hl (by decide) rfl (fun ls hl => ?_)
    refine lv_iload_n hx hb dX7_faultAt_175 rfl (lv_at hl 2 rfl) ?_
    refine lv_iload hx hb dX7_faultAt_176 (lv_at hl 0 rfl) ?_
    refine lv_iload_n hx hb dX7_faultAt_178 rfl (lv_at hl 1 rfl) ?_
    obtain ⟨r2, k3, hf⟩ := zb1_some hf
    refine zcSi (As := [.int (zI x3), .int (zI v1), .int (zI x2)]) (rest := []) hx hb hml hown hts hl.1 hK hH hA (c_X7_isBad hI hN   k3) zk_t5_190 zk_t5_191 zk_t1_6 zk_t5_192 hd_X7_isBad rfl ⟨rfl, rfl, Nat.le_of_ble_eq_true rfl, Nat.le_of_ble_eq_true rfl⟩ ⟨Nat.zero_le _, Nat.zero_le _⟩ rfl (Nat.le_of_ble_eq_true rfl) dX7_faultAt_179 (fun q5 σ4 Hσ4 lσ4 hp hH => ?_)
    obtain ⟨hr1, hs1⟩ := hp; subst hr1; rw [hs1] at hH
    obtain ⟨k6, hf⟩ := zck_some hf
    refine lz_if_eq (tgt := 192) hx hb k6 dX7_faultAt_182 (by decide) (fun c7 => ?_) (fun c7 => ?_)
    · replace hf := (if_pos c7).symm.trans hf
      refine lv_iconst (v := zI (-1)) hx hb dX7_faultAt_192 (by decide +kernel) ?_
      cases hf
      exact zreti hx hb hr hlocks hQ hH ⟨rfl, hbg⟩ dX7_faultAt_193
    · replace hf := (if_neg c7).symm.trans hf
      refine lv_iload hx hb dX7_faultAt_185 (lv_at hl 3 rfl) ?_
      refine lv_iconst (v := zI 1) hx hb dX7_faultAt_187 (by decide +kernel) ?_
      refine lz_iadd hx hb dX7_faultAt_188 ?_
      refine lv_goto (tgt := 193) hx hb dX7_faultAt_189 (by decide) ?_
      cases hf
      exact zreti hx hb hr hlocks hQ hH ⟨rfl, hbg⟩ dX7_faultAt_193
  have J117 : ∀ (x2 : Int) (x3 : Int) (x4 : Int) (s0 : Int) (σ : Nat → va_E) (H : Heap) (locs : List Loc) (hH : zH D ad N (zFr ad N s.heap.size) s.heap σ H locs) (h_mo : σ 19 = oC_mo ad mo_fields mo_bound mo_points mo_crossings mo_isKnown mo_commands mo_needleX mo_needleY mo_hasFile mo_format mo_length mo_heads mo_late mo_ran mo_program mo_thrown mo_rowY mo_stitches) (h_mo_bytes : σ 40 = .inl (cI, 70000, .inl (zA mo_bytes))) (hbg : σ = σ0) (ls : Array Slot) (hl : lv_has ls 7 [(0, .ref (ad 19)), (2, .int (zI x2)), (3, .int (zI x3)), (4, .int (zI x4))]), f_X7_faultAt_117 mo_format mo_length mo_bytes x2 x3 x4 s0 = some R0 → W p l e rmX7_faultAt s m args below meth c H locs 0 0 Q (F0 m 117 ls [.int (zI s0)]) := by
    intro x2 x3 x4 s0 σ H locs hH h_mo h_mo_bytes hbg ls hl hf
    unfold f_X7_faultAt_117 at hf
    refine lv_istore (lv' := [(5, .int (zI s0)), (0, .ref (ad 19)), (2, .int (zI x2)), (3, .int (zI x3)), (4, .int (zI x4))]) hx hb dX7_faultAt_117 hl (by decide) rfl (fun ls hl => ?_)
    refine lv_iload_n hx hb dX7_faultAt_119 rfl (lv_at hl 3 rfl) ?_
    refine lv_iload hx hb dX7_faultAt_120 (lv_at hl 0 rfl) ?_
    refine lv_iload_n hx hb dX7_faultAt_122 rfl (lv_at hl 2 rfl) ?_
    obtain ⟨r8, k9, hf⟩ := zb1_some hf
    refine zcSi (As := [.int (zI x3), .int (zI s0), .int (zI x2)]) (rest := []) hx hb hml hown hts hl.1 hK hH hA (c_X7_isBad hI hN   k9) zk_t5_190 zk_t5_191 zk_t1_6 zk_t5_192 hd_X7_isBad rfl ⟨rfl, rfl, Nat.le_of_ble_eq_true rfl, Nat.le_of_ble_eq_true rfl⟩ ⟨Nat.zero_le _, Nat.zero_le _⟩ rfl (Nat.le_of_ble_eq_true rfl) dX7_faultAt_123 (fun q11 σ10 Hσ10 lσ10 hp hH => ?_)
    obtain ⟨hr1, hs1⟩ := hp; subst hr1; rw [hs1] at hH
    obtain ⟨k12, hf⟩ := zck_some hf
    refine lz_if_eq (tgt := 132) hx hb k12 dX7_faultAt_126 (by decide) (fun c13 => ?_) (fun c13 => ?_)
    · replace hf := (if_pos c13).symm.trans hf
      refine lv_iload hx hb dX7_faultAt_132 (lv_at hl 4 rfl) ?_
      refine lv_iconst (v := zI 1) hx hb dX7_faultAt_134 (by decide +kernel) ?_
      refine lz_iadd hx hb dX7_faultAt_135 ?_
      refine lv_aload_n hx hb dX7_faultAt_136 rfl (lv_at hl 1 rfl) ?_
      refine zget hx hb inlX7 rfl 30 rfl zk_t4_143 hts hown hK hH hk_mo h_mo rfl dX7_faultAt_137 ?_
      obtain ⟨k14, hf⟩ := zck_some hf
      refine lz_icmp_lt (tgt := 148) hx hb k14 dX7_faultAt_140 (by decide) (fun c15 => ?_) (fun c15 => ?_)
      · replace hf := (if_pos c15).symm.trans hf
        refine lv_aload_n hx hb dX7_faultAt_148 rfl (lv_at hl 1 rfl) ?_
        refine zget hx hb inlX7 rfl 31 rfl zk_t4_144 hts hown hK hH hk_mo h_mo rfl dX7_faultAt_149 ?_
        refine lv_iload hx hb dX7_faultAt_152 (lv_at hl 4 rfl) ?_
        refine lv_iconst (v := zI 1) hx hb dX7_faultAt_154 (by decide +kernel) ?_
        refine lz_iadd hx hb dX7_faultAt_155 ?_
        obtain ⟨k16, hf⟩ := zck_some hf
        refine ziald hx hb hK hH hk_mo_bytes 0 h_mo_bytes rfl k16 rfl dX7_faultAt_156 ?_
        refine lv_aload_n hx hb dX7_faultAt_157 rfl (lv_at hl 1 rfl) ?_
        refine zget hx hb inlX7 rfl 29 rfl zk_t4_142 hts hown hK hH hk_mo h_mo rfl dX7_faultAt_158 ?_
        obtain ⟨k17, hf⟩ := zck_some hf
        refine lz_if_ne (tgt := 169) hx hb k17 dX7_faultAt_161 (by decide) (fun c18 => ?_) (fun c18 => ?_)
        · replace hf := (if_neg c18).symm.trans hf
          refine lv_sipush (v := zI 128) hx hb dX7_faultAt_169 (by decide +kernel) ?_
          exact J172 x2 x3 x4 (mo_bytes (x4 + 1)) 128 _ _ _ hH h_mo h_mo_bytes hbg _ (lv_sub hl [2, 3, 4] rfl) hf
        · replace hf := (if_pos c18).symm.trans hf
          refine lv_bipush (v := zI 16) hx hb dX7_faultAt_164 (by decide +kernel) ?_
          refine lv_goto (tgt := 172) hx hb dX7_faultAt_166 (by decide) ?_
          exact J172 x2 x3 x4 (mo_bytes (x4 + 1)) 16 _ _ _ hH h_mo h_mo_bytes hbg _ (lv_sub hl [2, 3, 4] rfl) hf
      · replace hf := (if_neg c15).symm.trans hf
        refine lv_aload_n hx hb dX7_faultAt_143 rfl (lv_at hl 1 rfl) ?_
        refine zget hx hb inlX7 rfl 30 rfl zk_t4_143 hts hown hK hH hk_mo h_mo rfl dX7_faultAt_144 ?_
        cases hf
        exact zreti hx hb hr hlocks hQ hH ⟨rfl, hbg⟩ dX7_faultAt_147
    · replace hf := (if_neg c13).symm.trans hf
      refine lv_iload hx hb dX7_faultAt_129 (lv_at hl 4 rfl) ?_
      cases hf
      exact zreti hx hb hr hlocks hQ hH ⟨rfl, hbg⟩ dX7_faultAt_131
  have J68 : ∀ (x1 : Int) (x2 : Int) (x3 : Int) (s0 : Int) (σ : Nat → va_E) (H : Heap) (locs : List Loc) (hH : zH D ad N (zFr ad N s.heap.size) s.heap σ H locs) (h_mo : σ 19 = oC_mo ad mo_fields mo_bound mo_points mo_crossings mo_isKnown mo_commands mo_needleX mo_needleY mo_hasFile mo_format mo_length mo_heads mo_late mo_ran mo_program mo_thrown mo_rowY mo_stitches) (h_mo_bytes : σ 40 = .inl (cI, 70000, .inl (zA mo_bytes))) (hbg : σ = σ0) (ls : Array Slot) (hl : lv_has ls 7 [(0, .ref (ad 19)), (1, .int (zI x1)), (2, .int (zI x2)), (3, .int (zI x3))]), f_X7_faultAt_68 mo_format mo_length mo_bytes x1 x2 x3 s0 = some R0 → W p l e rmX7_faultAt s m args below meth c H locs 0 0 Q (F0 m 68 ls [.int (zI s0)]) := by
    intro x1 x2 x3 s0 σ H locs hH h_mo h_mo_bytes hbg ls hl hf
    unfold f_X7_faultAt_68 at hf
    refine lv_istore (lv' := [(4, .int (zI s0)), (0, .ref (ad 19)), (1, .int (zI x1)), (2, .int (zI x2)), (3, .int (zI x3))]) hx hb dX7_faultAt_68 hl (by decide) rfl (fun ls hl => ?_)
    refine lv_iload hx hb dX7_faultAt_70 (lv_at hl 0 rfl) ?_
    refine lv_aload_n hx hb dX7_faultAt_72 rfl (lv_at hl 1 rfl) ?_
    refine zget hx hb inlX7 rfl 30 rfl zk_t4_143 hts hown hK hH hk_mo h_mo rfl dX7_faultAt_73 ?_
    obtain ⟨k19, hf⟩ := zck_some hf
    refine lz_icmp_lt (tgt := 84) hx hb k19 dX7_faultAt_76 (by decide) (fun c20 => ?_) (fun c20 => ?_)
    · replace hf := (if_pos c20).symm.trans hf
      refine lv_aload_n hx hb dX7_faultAt_84 rfl (lv_at hl 1 rfl) ?_
      refine zget hx hb inlX7 rfl 29 rfl zk_t4_142 hts hown hK hH hk_mo h_mo rfl dX7_faultAt_85 ?_
      obtain ⟨k21, hf⟩ := zck_some hf
      refine lz_if_ne (tgt := 106) hx hb k21 dX7_faultAt_88 (by decide) (fun c22 => ?_) (fun c22 => ?_)
      · replace hf := (if_neg c22).symm.trans hf
        refine lv_aload_n hx hb dX7_faultAt_106 rfl (lv_at hl 1 rfl) ?_
        refine zget hx hb inlX7 rfl 31 rfl zk_t4_144 hts hown hK hH hk_mo h_mo rfl dX7_faultAt_107 ?_
        refine lv_iload hx hb dX7_faultAt_110 (lv_at hl 0 rfl) ?_
        obtain ⟨k23, hf⟩ := zck_some hf
        refine ziald hx hb hK hH hk_mo_bytes 0 h_mo_bytes rfl k23 rfl dX7_faultAt_112 ?_
        refine lv_sipush (v := zI 128) hx hb dX7_faultAt_113 (by decide +kernel) ?_
        refine lz_isub hx hb dX7_faultAt_116 ?_
        exact J117 x2 x3 s0 ((mo_bytes s0) - 128) _ _ _ hH h_mo h_mo_bytes hbg _ (lv_sub hl [1, 3, 4, 0] rfl) hf
      · replace hf := (if_pos c22).symm.trans hf
        refine lv_aload_n hx hb dX7_faultAt_91 rfl (lv_at hl 1 rfl) ?_
        refine zget hx hb inlX7 rfl 31 rfl zk_t4_144 hts hown hK hH hk_mo h_mo rfl dX7_faultAt_92 ?_
        refine lv_iload_n hx hb dX7_faultAt_95 rfl (lv_at hl 2 rfl) ?_
        obtain ⟨k24, hf⟩ := zck_some hf
        refine ziald hx hb hK hH hk_mo_bytes 0 h_mo_bytes rfl k24 rfl dX7_faultAt_96 ?_
        refine lv_bipush (v := zI 32) hx hb dX7_faultAt_97 (by decide +kernel) ?_
        obtain ⟨k25, hf⟩ := zck_some hf
        refine lz_irem hx hb ⟨⟨k25, by decide⟩, by decide⟩ dX7_faultAt_99 ?_
        refine lv_bipush (v := zI 16) hx hb dX7_faultAt_100 (by decide +kernel) ?_
        refine lz_isub hx hb dX7_faultAt_102 ?_
        refine lv_goto (tgt := 117) hx hb dX7_faultAt_103 (by decide) ?_
        exact J117 x2 x3 s0 ((Int.tmod (mo_bytes x1) 32) - 16) _ _ _ hH h_mo h_mo_bytes hbg _ (lv_sub hl [1, 3, 4, 0] rfl) hf
    · replace hf := (if_neg c20).symm.trans hf
      refine lv_aload_n hx hb dX7_faultAt_79 rfl (lv_at hl 1 rfl) ?_
      refine zget hx hb inlX7 rfl 30 rfl zk_t4_143 hts hown hK hH hk_mo h_mo rfl dX7_faultAt_80 ?_
      cases hf
      exact zreti hx hb hr hlocks hQ hH ⟨rfl, hbg⟩ dX7_faultAt_83
  have J46 : ∀ (x1 : Int) (x2 : Int) (s0 : Int) (σ : Nat → va_E) (H : Heap) (locs : List Loc) (hH : zH D ad N (zFr ad N s.heap.size) s.heap σ H locs) (h_mo : σ 19 = oC_mo ad mo_fields mo_bound mo_points mo_crossings mo_isKnown mo_commands mo_needleX mo_needleY mo_hasFile mo_format mo_length mo_heads mo_late mo_ran mo_program mo_thrown mo_rowY mo_stitches) (h_mo_bytes : σ 40 = .inl (cI, 70000, .inl (zA mo_bytes))) (hbg : σ = σ0) (ls : Array Slot) (hl : lv_has ls 7 [(0, .ref (ad 19)), (1, .int (zI x1)), (2, .int (zI x2))]), f_X7_faultAt_46 mo_format mo_length mo_bytes x1 x2 s0 = some R0 → W p l e rmX7_faultAt s m args below meth c H locs 0 0 Q (F0 m 46 ls [.int (zI s0)]) := by
    intro x1 x2 s0 σ H locs hH h_mo h_mo_bytes hbg ls hl hf
    unfold f_X7_faultAt_46 at hf
    refine lv_istore_n (lv' := [(3, .int (zI s0)), (0, .ref (ad 19)), (1, .int (zI x1)), (2, .int (zI x2))]) hx hb dX7_faultAt_46 rfl hl (by decide) rfl (fun ls hl => ?_)
    refine lv_iload_n hx hb dX7_faultAt_47 rfl (lv_at hl 0 rfl) ?_
    refine lv_iconst (v := zI 4) hx hb dX7_faultAt_48 (by decide +kernel) ?_
    obtain ⟨k26, hf⟩ := zck_some hf
    refine lz_icmp_le (tgt := 54) hx hb ⟨k26, by decide⟩ dX7_faultAt_49 (by decide) (fun c27 => ?_) (fun c27 => ?_)
    · replace hf := (if_pos c27).symm.trans hf
      refine lv_aload_n hx hb dX7_faultAt_54 rfl (lv_at hl 1 rfl) ?_
      refine zget hx hb inlX7 rfl 29 rfl zk_t4_142 hts hown hK hH hk_mo h_mo rfl dX7_faultAt_55 ?_
      obtain ⟨k28, hf⟩ := zck_some hf
      refine lz_if_ne (tgt := 65) hx hb k28 dX7_faultAt_58 (by decide) (fun c29 => ?_) (fun c29 => ?_)
      · replace hf := (if_neg c29).symm.trans hf
        refine lv_iload_n hx hb dX7_faultAt_65 rfl (lv_at hl 2 rfl) ?_
        refine lv_iconst (v := zI 1) hx hb dX7_faultAt_66 (by decide +kernel) ?_
        refine lz_iadd hx hb dX7_faultAt_67 ?_
        exact J68 x1 x2 s0 (x1 + 1) _ _ _ hH h_mo h_mo_bytes hbg _ (lv_sub hl [1, 2, 3, 0] rfl) hf
      · replace hf := (if_pos c29).symm.trans hf
        refine lv_iload_n hx hb dX7_faultAt_61 rfl (lv_at hl 2 rfl) ?_
        refine lv_goto (tgt := 68) hx hb dX7_faultAt_62 (by decide) ?_
        exact J68 x1 x2 s0 x1 _ _ _ hH h_mo h_mo_bytes hbg _ (lv_sub hl [1, 2, 3, 0] rfl) hf
    · replace hf := (if_neg c27).symm.trans hf
      refine lv_iload_n hx hb dX7_faultAt_52 rfl (lv_at hl 2 rfl) ?_
      cases hf
      exact zreti hx hb hr hlocks hQ hH ⟨rfl, hbg⟩ dX7_faultAt_53
  unfold f_X7_faultAt at hf
  refine lv_aload_n hx hb dX7_faultAt_0 rfl (lv_at hl 0 rfl) ?_
  refine zget hx hb inlX7 rfl 29 rfl zk_t4_142 hts hown hK hH hk_mo h_mo rfl dX7_faultAt_1 ?_
  obtain ⟨r30, k31, hf⟩ := zb1_some hf
  refine zcSi (As := [.int (zI mo_format)]) (rest := []) hx hb hml hown hts hl.1 hK hH hA (c_X7_limitOf hI hN   k31) zk_t5_155 zk_t5_156 zk_t1_6 zk_t5_157 hd_X7_limitOf rfl ⟨rfl, rfl, Nat.le_of_ble_eq_true rfl, Nat.le_of_ble_eq_true rfl⟩ ⟨Nat.zero_le _, Nat.zero_le _⟩ rfl (Nat.le_of_ble_eq_true rfl) dX7_faultAt_4 (fun q33 σ32 Hσ32 lσ32 hp hH => ?_)
  obtain ⟨hr1, hs1⟩ := hp; subst hr1; rw [hs1] at hH
  refine lv_istore_n (lv' := [(2, .int (zI r30)), (0, .ref (ad 19)), (1, .int (zI p1))]) hx hb dX7_faultAt_7 rfl hl (by decide) rfl (fun ls hl => ?_)
  refine lv_iload_n hx hb dX7_faultAt_8 rfl (lv_at hl 2 rfl) ?_
  refine lv_aload_n hx hb dX7_faultAt_9 rfl (lv_at hl 1 rfl) ?_
  refine zget hx hb inlX7 rfl 30 rfl zk_t4_143 hts hown hK hH hk_mo h_mo rfl dX7_faultAt_10 ?_
  obtain ⟨k34, hf⟩ := zck_some hf
  refine lz_icmp_lt (tgt := 21) hx hb k34 dX7_faultAt_13 (by decide) (fun c35 => ?_) (fun c35 => ?_)
  · replace hf := (if_pos c35).symm.trans hf
    refine lv_aload_n hx hb dX7_faultAt_21 rfl (lv_at hl 1 rfl) ?_
    refine zget hx hb inlX7 rfl 29 rfl zk_t4_142 hts hown hK hH hk_mo h_mo rfl dX7_faultAt_22 ?_
    obtain ⟨k36, hf⟩ := zck_some hf
    refine lz_if_ne (tgt := 40) hx hb k36 dX7_faultAt_25 (by decide) (fun c37 => ?_) (fun c37 => ?_)
    · replace hf := (if_neg c37).symm.trans hf
      refine lv_aload_n hx hb dX7_faultAt_40 rfl (lv_at hl 1 rfl) ?_
      refine zget hx hb inlX7 rfl 31 rfl zk_t4_144 hts hown hK hH hk_mo h_mo rfl dX7_faultAt_41 ?_
      refine lv_iload_n hx hb dX7_faultAt_44 rfl (lv_at hl 2 rfl) ?_
      obtain ⟨k38, hf⟩ := zck_some hf
      refine ziald hx hb hK hH hk_mo_bytes 0 h_mo_bytes rfl k38 rfl dX7_faultAt_45 ?_
      exact J46 p1 r30 (mo_bytes p1) _ _ _ hH h_mo h_mo_bytes hbg _ (lv_sub hl [1, 2, 0] rfl) hf
    · replace hf := (if_pos c37).symm.trans hf
      refine lv_aload_n hx hb dX7_faultAt_28 rfl (lv_at hl 1 rfl) ?_
      refine zget hx hb inlX7 rfl 31 rfl zk_t4_144 hts hown hK hH hk_mo h_mo rfl dX7_faultAt_29 ?_
      refine lv_iload_n hx hb dX7_faultAt_32 rfl (lv_at hl 2 rfl) ?_
      obtain ⟨k39, hf⟩ := zck_some hf
      refine ziald hx hb hK hH hk_mo_bytes 0 h_mo_bytes rfl k39 rfl dX7_faultAt_33 ?_
      refine lv_bipush (v := zI 32) hx hb dX7_faultAt_34 (by decide +kernel) ?_
      obtain ⟨k40, hf⟩ := zck_some hf
      refine lz_idiv hx hb ⟨⟨k40, by decide⟩, by decide⟩ dX7_faultAt_36 ?_
      refine lv_goto (tgt := 46) hx hb dX7_faultAt_37 (by decide) ?_
      exact J46 p1 r30 (Int.tdiv (mo_bytes p1) 32) _ _ _ hH h_mo h_mo_bytes hbg _ (lv_sub hl [1, 2, 0] rfl) hf
  · replace hf := (if_neg c35).symm.trans hf
    refine lv_aload_n hx hb dX7_faultAt_16 rfl (lv_at hl 1 rfl) ?_
    refine zget hx hb inlX7 rfl 30 rfl zk_t4_143 hts hown hK hH hk_mo h_mo rfl dX7_faultAt_17 ?_
    cases hf
    exact zreti hx hb hr hlocks hQ hH ⟨rfl, hbg⟩ dX7_faultAt_20
abbrev rmX7_reading : Room := { frames := 3, cells := 0, slots := 0, locals := 70 }
theorem hd_X7_reading : yX7_reading.cls = RX7 ∧ yX7_reading.cls ≠ "java/lang/invoke/MethodHandle" ∧ yX7_reading.cls ≠ "java/lang/invoke/VarHandle" ∧ (parseMethodDescriptor yX7_reading.desc).map (fun d => d.parameters.length) = some 0 := by decide +kernel
set_option maxHeartbeats 4000000 in
set_option maxRecDepth 100000 in
theorem c_X7_reading {l : Launch} {D : va_G} {cI cZ cF cL cD : ClassId} {ad : Nat → Nat} {N : Nat} (hI : ∀ i j, i < N → j < N → ad i = ad j → i = j) (hN : 46 ≤ N) {σ0 : Nat → va_E} {sz : Nat} {mo_fields : Int} {mo_bound : Int} {mo_points : Int} {mo_crossings : Int} {mo_isKnown : Int} {mo_commands : Int} {mo_needleX : Int} {mo_needleY : Int} {mo_hasFile : Int} {mo_format : Int} {mo_length : Int} {mo_bytes : Int → Int} {mo_heads : Int} {mo_late : Int} {mo_ran : Int} {mo_program : Int} {mo_thrown : Int} {mo_rowY : Int} {mo_stitches : Int} {R0 : Int} {R_mo_stitches : Int} (h_mo : σ0 19 = oC_mo ad mo_fields mo_bound mo_points mo_crossings mo_isKnown mo_commands mo_needleX mo_needleY mo_hasFile mo_format mo_length mo_heads mo_late mo_ran mo_program mo_thrown mo_rowY mo_stitches) (h_mo_bytes : σ0 40 = .inl (cI, 70000, .inl (zA mo_bytes))) (hf : f_X7_reading mo_hasFile mo_format mo_length mo_bytes mo_stitches = some (R0, R_mo_stitches)) :
    Met l yX7_reading (Cond.code yX7_reading cX7_reading 6 (some .int) :: wsL_law) rmX7_reading (zPre D ad N (zT cI cZ cF cL cD) σ0 sz [.ref (ad 19)]) (zQi D ad N sz (fun r σ' => r = zI R0 ∧ σ' 19 = oC_mo ad mo_fields mo_bound mo_points mo_crossings mo_isKnown mo_commands mo_needleX mo_needleY mo_hasFile mo_format mo_length mo_heads mo_late mo_ran mo_program mo_thrown mo_rowY R_mo_stitches ∧ ∀ i : Nat, i ≠ 19 → σ' i = σ0 i)) 0 0 (zFr ad N sz) := by
  refine zMet hI (plainFor_of_name (by decide)) (Nat.le_of_ble_eq_true rfl) ⟨rfl, rfl⟩ ?_
  intro p e s m args below meth c Q hx hb hr hlocks hml hown hts hK hsz hQ hH hA ls hl
  subst hsz
  have hk_mo : 19 < N := by omega
  have hk_mo_bytes : 40 < N := by omega
  have hl : lv_has ls 6 [(0, .ref (ad 19))] := hl
  have hbg : ∀ i : Nat, i ≠ 19 → σ0 i = σ0 i := fun _ _ => rfl
  have J143 : ∀ (mo_stitches : Int) (x2 : Int) (s0 : Int) (σ : Nat → va_E) (H : Heap) (locs : List Loc) (hH : zH D ad N (zFr ad N s.heap.size) s.heap σ H locs) (h_mo : σ 19 = oC_mo ad mo_fields mo_bound mo_points mo_crossings mo_isKnown mo_commands mo_needleX mo_needleY mo_hasFile mo_format mo_length mo_heads mo_late mo_ran mo_program mo_thrown mo_rowY mo_stitches) (h_mo_bytes : σ 40 = .inl (cI, 70000, .inl (zA mo_bytes))) (hbg : ∀ i : Nat, i ≠ 19 → σ i = σ0 i) (ls : Array Slot) (hl : lv_has ls 6 [(0, .ref (ad 19)), (2, .int (zI x2))]), f_X7_reading_143 mo_hasFile mo_format mo_length mo_bytes mo_stitches x2 s0 = some (R0, R_mo_stitches) → W p l e rmX7_reading s m args below meth c H locs 0 0 Q (F0 m 143 ls [.int (zI s0)]) := by
    intro mo_stitches x2 s0 σ H locs hH h_mo h_mo_bytes hbg ls hl hf
    unfold f_X7_reading_143 at hf
    refine lv_istore (lv' := [(4, .int (zI s0)), (0, .ref (ad 19)), (2, .int (zI x2))]) hx hb dX7_reading_143 hl (by decide) rfl (fun ls hl => ?_)
    refine lv_iload hx hb dX7_reading_145 (lv_at hl 0 rfl) ?_
    obtain ⟨k1, hf⟩ := zck_some hf
    refine lz_if_ne (tgt := 154) hx hb k1 dX7_reading_147 (by decide) (fun c2 => ?_) (fun c2 => ?_)
    · replace hf := (if_neg c2).symm.trans hf
      refine lv_iload_n hx hb dX7_reading_154 rfl (lv_at hl 2 rfl) ?_
      refine lv_iconst (v := zI 1) hx hb dX7_reading_155 (by decide +kernel) ?_
      refine lz_iadd hx hb dX7_reading_156 ?_
      refine lv_aload_n hx hb dX7_reading_157 rfl (lv_at hl 1 rfl) ?_
      refine zget hx hb inlX7 rfl 30 rfl zk_t4_143 hts hown hK hH hk_mo h_mo rfl dX7_reading_158 ?_
      obtain ⟨k3, hf⟩ := zck_some hf
      refine lz_icmp_ge (tgt := 170) hx hb k3 dX7_reading_161 (by decide) (fun c4 => ?_) (fun c4 => ?_)
      · replace hf := (if_pos c4).symm.trans hf
        refine lv_iconst (v := zI (-1)) hx hb dX7_reading_170 (by decide +kernel) ?_
        cases hf
        exact zreti hx hb hr hlocks hQ hH ⟨rfl, h_mo, hbg⟩ dX7_reading_171
      · replace hf := (if_neg c4).symm.trans hf
        refine lv_iload_n hx hb dX7_reading_164 rfl (lv_at hl 2 rfl) ?_
        refine lv_iconst (v := zI 1) hx hb dX7_reading_165 (by decide +kernel) ?_
        refine lz_iadd hx hb dX7_reading_166 ?_
        refine lv_goto (tgt := 171) hx hb dX7_reading_167 (by decide) ?_
        cases hf
        exact zreti hx hb hr hlocks hQ hH ⟨rfl, h_mo, hbg⟩ dX7_reading_171
    · replace hf := (if_pos c2).symm.trans hf
      refine lv_iload_n hx hb dX7_reading_150 rfl (lv_at hl 2 rfl) ?_
      refine lv_goto (tgt := 171) hx hb dX7_reading_151 (by decide) ?_
      cases hf
      exact zreti hx hb hr hlocks hQ hH ⟨rfl, h_mo, hbg⟩ dX7_reading_171
  have J142 : ∀ (mo_stitches : Int) (x2 : Int) (σ : Nat → va_E) (H : Heap) (locs : List Loc) (hH : zH D ad N (zFr ad N s.heap.size) s.heap σ H locs) (h_mo : σ 19 = oC_mo ad mo_fields mo_bound mo_points mo_crossings mo_isKnown mo_commands mo_needleX mo_needleY mo_hasFile mo_format mo_length mo_heads mo_late mo_ran mo_program mo_thrown mo_rowY mo_stitches) (h_mo_bytes : σ 40 = .inl (cI, 70000, .inl (zA mo_bytes))) (hbg : ∀ i : Nat, i ≠ 19 → σ i = σ0 i) (ls : Array Slot) (hl : lv_has ls 6 [(0, .ref (ad 19)), (2, .int (zI x2))]), f_X7_reading_142 mo_hasFile mo_format mo_length mo_bytes mo_stitches x2 = some (R0, R_mo_stitches) → W p l e rmX7_reading s m args below meth c H locs 0 0 Q (F0 m 142 ls []) := by
    intro mo_stitches x2 σ H locs hH h_mo h_mo_bytes hbg ls hl hf
    unfold f_X7_reading_142 at hf
    refine lv_iconst (v := zI 0) hx hb dX7_reading_142 (by decide +kernel) ?_
    exact J143 mo_stitches x2 0 _ _ _ hH h_mo h_mo_bytes hbg _ (lv_sub hl [0, 1] rfl) hf
  have L31 : ∀ (x1 : Int)  (n : Nat) (x2 : Int) (x3 : Int) (mo_stitches : Int) (res : ((Int × Int × Int) ⊕ (Int × Int))), zlp (fun z => f_X7_reading_L31 mo_hasFile mo_format mo_length mo_bytes x1 z.1 z.2.1 z.2.2) n (x2, x3, mo_stitches) = some res → ∀ (σ : Nat → va_E) (H : Heap) (locs : List Loc) (hH : zH D ad N (zFr ad N s.heap.size) s.heap σ H locs) (h_mo : σ 19 = oC_mo ad mo_fields mo_bound mo_points mo_crossings mo_isKnown mo_commands mo_needleX mo_needleY mo_hasFile mo_format mo_length mo_heads mo_late mo_ran mo_program mo_thrown mo_rowY mo_stitches) (h_mo_bytes : σ 40 = .inl (cI, 70000, .inl (zA mo_bytes))) (hbg : ∀ i : Nat, i ≠ 19 → σ i = σ0 i) (ls : Array Slot) (hl : lv_has ls 6 [(0, .ref (ad 19)), (1, .int (zI x1)), (2, .int (zI x2)), (3, .int (zI x3))]), (∀ (x2' : Int) (x3' : Int) (mo_stitches' : Int), res = .inl (x2', x3', mo_stitches') → ∀ (σ : Nat → va_E) (H : Heap) (locs : List Loc) (hH : zH D ad N (zFr ad N s.heap.size) s.heap σ H locs) (h_mo : σ 19 = oC_mo ad mo_fields mo_bound mo_points mo_crossings mo_isKnown mo_commands mo_needleX mo_needleY mo_hasFile mo_format mo_length mo_heads mo_late mo_ran mo_program mo_thrown mo_rowY (mo_stitches')) (h_mo_bytes : σ 40 = .inl (cI, 70000, .inl (zA mo_bytes))) (hbg : ∀ i : Nat, i ≠ 19 → σ i = σ0 i) (ls : Array Slot) (hl : lv_has ls 6 [(0, .ref (ad 19)), (2, .int (zI (x2')))]), W p l e rmX7_reading s m args below meth c H locs 0 0 Q (F0 m 116 ls [])) → (∀ b, res = .inr b → some b = some (R0, R_mo_stitches)) → W p l e rmX7_reading s m args below meth c H locs 0 0 Q (F0 m 31 ls []) := by
    intro x1 n
    induction n with
    | zero => intro x2 x3 mo_stitches res hz; exact (zlp_0 hz).elim
    | succ n ih =>
      intro x2 x3 mo_stitches res hz σ H locs hH h_mo h_mo_bytes hbg ls hl kx kr
      obtain ⟨nx, hf, hnx⟩ := zlp_some hz
      have hf : f_X7_reading_L31 mo_hasFile mo_format mo_length mo_bytes x1 x2 x3 mo_stitches = some nx := hf
      have JL31_93 : ∀ (mo_stitches : Int) (x2 : Int) (x5 : Int) (s1 : Int) (s2 : Int) (σ : Nat → va_E) (H : Heap) (locs : List Loc) (hH : zH D ad N (zFr ad N s.heap.size) s.heap σ H locs) (h_mo : σ 19 = oC_mo ad mo_fields mo_bound mo_points mo_crossings mo_isKnown mo_commands mo_needleX mo_needleY mo_hasFile mo_format mo_length mo_heads mo_late mo_ran mo_program mo_thrown mo_rowY mo_stitches) (h_mo_bytes : σ 40 = .inl (cI, 70000, .inl (zA mo_bytes))) (hbg : ∀ i : Nat, i ≠ 19 → σ i = σ0 i) (ls : Array Slot) (hl : lv_has ls 6 [(0, .ref (ad 19)), (1, .int (zI x1)), (2, .int (zI x2)), (5, .int (zI x5))]), f_X7_reading_L31_93 mo_hasFile mo_format mo_length mo_bytes mo_stitches x1 x2 x5 s1 s2 = some nx → W p l e rmX7_reading s m args below meth c H locs 0 0 Q (F0 m 93 ls [.int (zI s2), .int (zI s1), .ref (ad 19)]) := by
        intro mo_stitches x2 x5 s1 s2 σ H locs hH h_mo h_mo_bytes hbg ls hl hf
        unfold f_X7_reading_L31_93 at hf
        refine lz_iadd hx hb dX7_reading_93 ?_
        obtain ⟨v5, ev5, hf⟩ := zlt_some hf
        refine lz_nm ev5 ?_
        refine zput hx hb inlX7 tyX7 tyX7_ok nmX7 rfl 41 rfl zk_t4_154 rfl hts hown hK hH hk_mo h_mo rfl rfl rfl dX7_reading_94 (fun σ6 Hσ6 lσ6 h_mo hn hH => ?_)
        have h_mo : σ6 19 = oC_mo ad mo_fields mo_bound mo_points mo_crossings mo_isKnown mo_commands mo_needleX mo_needleY mo_hasFile mo_format mo_length mo_heads mo_late mo_ran mo_program mo_thrown mo_rowY v5 := h_mo
        have h_mo_bytes := (hn 40 (by decide)).trans h_mo_bytes
        have hbg : ∀ i : Nat, i ≠ 19 → σ6 i = σ0 i := fun i a0 => (hn i a0).trans (hbg i a0)
        refine lv_iload hx hb dX7_reading_97 (lv_at hl 3 rfl) ?_
        refine lv_iconst (v := zI 4) hx hb dX7_reading_99 (by decide +kernel) ?_
        obtain ⟨k7, hf⟩ := zck_some hf
        refine lz_icmp_ne (tgt := 107) hx hb ⟨k7, by decide⟩ dX7_reading_100 (by decide) (fun c8 => ?_) (fun c8 => ?_)
        · replace hf := (if_neg c8).symm.trans hf
          refine lv_iconst (v := zI 0) hx hb dX7_reading_107 (by decide +kernel) ?_
          refine lv_istore_n (lv' := [(3, .int (zI 0)), (0, .ref (ad 19)), (1, .int (zI x1)), (2, .int (zI x2)), (5, .int (zI x5))]) hx hb dX7_reading_108 rfl hl (by decide) rfl (fun ls hl => ?_)
          refine lv_iload_n hx hb dX7_reading_109 rfl (lv_at hl 3 rfl) ?_
          refine lv_iload_n hx hb dX7_reading_110 rfl (lv_at hl 2 rfl) ?_
          refine lz_iadd hx hb dX7_reading_111 ?_
          obtain ⟨v9, ev9, hf⟩ := zlt_some hf
          refine lz_nm ev9 ?_
          refine lv_istore_n (lv' := [(2, .int (zI v9)), (3, .int (zI 0)), (0, .ref (ad 19)), (1, .int (zI x1)), (5, .int (zI x5))]) hx hb dX7_reading_112 rfl hl (by decide) rfl (fun ls hl => ?_)
          refine lv_goto (tgt := 31) hx hb dX7_reading_113 (by decide) ?_
          cases hf
          exact ih v9 0 v5 _ hnx _ _ _ hH h_mo h_mo_bytes hbg _ (lv_sub hl [2, 3, 0, 1] rfl) kx kr
        · replace hf := (if_pos c8).symm.trans hf
          refine lv_iconst (v := zI 1) hx hb dX7_reading_103 (by decide +kernel) ?_
          refine lv_goto (tgt := 108) hx hb dX7_reading_104 (by decide) ?_
          refine lv_istore_n (lv' := [(3, .int (zI 1)), (0, .ref (ad 19)), (1, .int (zI x1)), (2, .int (zI x2)), (5, .int (zI x5))]) hx hb dX7_reading_108 rfl hl (by decide) rfl (fun ls hl => ?_)
          refine lv_iload_n hx hb dX7_reading_109 rfl (lv_at hl 3 rfl) ?_
          refine lv_iload_n hx hb dX7_reading_110 rfl (lv_at hl 2 rfl) ?_
          refine lz_iadd hx hb dX7_reading_111 ?_
          obtain ⟨v10, ev10, hf⟩ := zlt_some hf
          refine lz_nm ev10 ?_
          refine lv_istore_n (lv' := [(2, .int (zI v10)), (3, .int (zI 1)), (0, .ref (ad 19)), (1, .int (zI x1)), (5, .int (zI x5))]) hx hb dX7_reading_112 rfl hl (by decide) rfl (fun ls hl => ?_)
          refine lv_goto (tgt := 31) hx hb dX7_reading_113 (by decide) ?_
          cases hf
          exact ih v10 1 v5 _ hnx _ _ _ hH h_mo h_mo_bytes hbg _ (lv_sub hl [2, 3, 0, 1] rfl) kx kr
      have JL31_76 : ∀ (mo_stitches : Int) (x2 : Int) (s0 : Int) (σ : Nat → va_E) (H : Heap) (locs : List Loc) (hH : zH D ad N (zFr ad N s.heap.size) s.heap σ H locs) (h_mo : σ 19 = oC_mo ad mo_fields mo_bound mo_points mo_crossings mo_isKnown mo_commands mo_needleX mo_needleY mo_hasFile mo_format mo_length mo_heads mo_late mo_ran mo_program mo_thrown mo_rowY mo_stitches) (h_mo_bytes : σ 40 = .inl (cI, 70000, .inl (zA mo_bytes))) (hbg : ∀ i : Nat, i ≠ 19 → σ i = σ0 i) (ls : Array Slot) (hl : lv_has ls 6 [(0, .ref (ad 19)), (1, .int (zI x1)), (2, .int (zI x2))]), f_X7_reading_L31_76 mo_hasFile mo_format mo_length mo_bytes mo_stitches x1 x2 s0 = some nx → W p l e rmX7_reading s m args below meth c H locs 0 0 Q (F0 m 76 ls [.int (zI s0)]) := by
        intro mo_stitches x2 s0 σ H locs hH h_mo h_mo_bytes hbg ls hl hf
        unfold f_X7_reading_L31_76 at hf
        refine lv_istore (lv' := [(5, .int (zI s0)), (0, .ref (ad 19)), (1, .int (zI x1)), (2, .int (zI x2))]) hx hb dX7_reading_76 hl (by decide) rfl (fun ls hl => ?_)
        refine lv_aload_n hx hb dX7_reading_78 rfl (lv_at hl 1 rfl) ?_
        refine lv_dup hx hb dX7_reading_79 rfl ?_
        refine zget hx hb inlX7 rfl 41 rfl zk_t4_154 hts hown hK hH hk_mo h_mo rfl dX7_reading_80 ?_
        refine lv_iload hx hb dX7_reading_83 (lv_at hl 0 rfl) ?_
        obtain ⟨k11, hf⟩ := zck_some hf
        refine lz_if_ne (tgt := 92) hx hb k11 dX7_reading_85 (by decide) (fun c12 => ?_) (fun c12 => ?_)
        · replace hf := (if_neg c12).symm.trans hf
          refine lv_iconst (v := zI 0) hx hb dX7_reading_92 (by decide +kernel) ?_
          exact JL31_93 mo_stitches x2 s0 mo_stitches 0 _ _ _ hH h_mo h_mo_bytes hbg _ (lv_sub hl [1, 2, 3, 0] rfl) hf
        · replace hf := (if_pos c12).symm.trans hf
          refine lv_iconst (v := zI 1) hx hb dX7_reading_88 (by decide +kernel) ?_
          refine lv_goto (tgt := 93) hx hb dX7_reading_89 (by decide) ?_
          exact JL31_93 mo_stitches x2 s0 mo_stitches 1 _ _ _ hH h_mo h_mo_bytes hbg _ (lv_sub hl [1, 2, 3, 0] rfl) hf
      unfold f_X7_reading_L31 at hf
      refine lv_iload_n hx hb dX7_reading_31 rfl (lv_at hl 3 rfl) ?_
      obtain ⟨k13, hf⟩ := zck_some hf
      refine lz_if_ne (tgt := 116) hx hb k13 dX7_reading_32 (by decide) (fun c14 => ?_) (fun c14 => ?_)
      · replace hf := (if_neg c14).symm.trans hf
        cases hf
        exact kx x2 x3 mo_stitches hnx.symm _ _ _ hH h_mo h_mo_bytes hbg _ (lv_sub hl [0, 2] rfl)
      · replace hf := (if_pos c14).symm.trans hf
        refine lv_aload_n hx hb dX7_reading_35 rfl (lv_at hl 0 rfl) ?_
        refine lv_iload_n hx hb dX7_reading_36 rfl (lv_at hl 2 rfl) ?_
        obtain ⟨r15, k16, hf⟩ := zb1_some hf
        refine zcVi (C := RX7) (As := [.int (zI x2)]) (rest := []) hx hb hml hown hts hl.1 hK hH hA (c_X7_faultAt hI hN  h_mo h_mo_bytes k16) zk_t5_186 zk_t5_188 zk_s4_3 zk_t1_6 zk_t5_189 hd_X7_faultAt rfl ⟨rfl, rfl, Nat.le_of_ble_eq_true rfl, Nat.le_of_ble_eq_true rfl⟩ ⟨Nat.zero_le _, Nat.zero_le _⟩ hk_mo h_mo rfl rfl rfl (Nat.le_of_ble_eq_true rfl) dX7_reading_37 (fun q18 σ17 Hσ17 lσ17 hp hH => ?_)
        obtain ⟨hr1, hs1⟩ := hp; subst hr1; rw [hs1] at hH
        refine lv_istore (lv' := [(4, .int (zI r15)), (0, .ref (ad 19)), (1, .int (zI x1)), (2, .int (zI x2)), (3, .int (zI x3))]) hx hb dX7_reading_40 hl (by decide) rfl (fun ls hl => ?_)
        refine lv_iload hx hb dX7_reading_42 (lv_at hl 0 rfl) ?_
        refine lv_iconst (v := zI (-1)) hx hb dX7_reading_44 (by decide +kernel) ?_
        obtain ⟨k19, hf⟩ := zck_some hf
        refine lz_icmp_eq (tgt := 51) hx hb ⟨k19, by decide⟩ dX7_reading_45 (by decide) (fun c20 => ?_) (fun c20 => ?_)
        · replace hf := (if_pos c20).symm.trans hf
          refine lv_aload_n hx hb dX7_reading_51 rfl (lv_at hl 1 rfl) ?_
          refine zget hx hb inlX7 rfl 29 rfl zk_t4_142 hts hown hK hH hk_mo h_mo rfl dX7_reading_52 ?_
          obtain ⟨k21, hf⟩ := zck_some hf
          refine lz_if_ne (tgt := 70) hx hb k21 dX7_reading_55 (by decide) (fun c22 => ?_) (fun c22 => ?_)
          · replace hf := (if_neg c22).symm.trans hf
            refine lv_aload_n hx hb dX7_reading_70 rfl (lv_at hl 1 rfl) ?_
            refine zget hx hb inlX7 rfl 31 rfl zk_t4_144 hts hown hK hH hk_mo h_mo rfl dX7_reading_71 ?_
            refine lv_iload_n hx hb dX7_reading_74 rfl (lv_at hl 3 rfl) ?_
            obtain ⟨k23, hf⟩ := zck_some hf
            refine ziald hx hb hK hH hk_mo_bytes 0 h_mo_bytes rfl k23 rfl dX7_reading_75 ?_
            exact JL31_76 mo_stitches x2 (mo_bytes x2) _ _ _ hH h_mo h_mo_bytes hbg _ (lv_sub hl [1, 2, 3] rfl) hf
          · replace hf := (if_pos c22).symm.trans hf
            refine lv_aload_n hx hb dX7_reading_58 rfl (lv_at hl 1 rfl) ?_
            refine zget hx hb inlX7 rfl 31 rfl zk_t4_144 hts hown hK hH hk_mo h_mo rfl dX7_reading_59 ?_
            refine lv_iload_n hx hb dX7_reading_62 rfl (lv_at hl 3 rfl) ?_
            obtain ⟨k24, hf⟩ := zck_some hf
            refine ziald hx hb hK hH hk_mo_bytes 0 h_mo_bytes rfl k24 rfl dX7_reading_63 ?_
            refine lv_bipush (v := zI 32) hx hb dX7_reading_64 (by decide +kernel) ?_
            obtain ⟨k25, hf⟩ := zck_some hf
            refine lz_idiv hx hb ⟨⟨k25, by decide⟩, by decide⟩ dX7_reading_66 ?_
            refine lv_goto (tgt := 76) hx hb dX7_reading_67 (by decide) ?_
            exact JL31_76 mo_stitches x2 (Int.tdiv (mo_bytes x2) 32) _ _ _ hH h_mo h_mo_bytes hbg _ (lv_sub hl [1, 2, 3] rfl) hf
        · replace hf := (if_neg c20).symm.trans hf
          refine lv_iload hx hb dX7_reading_48 (lv_at hl 0 rfl) ?_
          cases hf
          replace hf := kr _ hnx.symm
          cases hf
          exact zreti hx hb hr hlocks hQ hH ⟨rfl, h_mo, hbg⟩ dX7_reading_50
  have J26 : ∀ (mo_stitches : Int) (s0 : Int) (σ : Nat → va_E) (H : Heap) (locs : List Loc) (hH : zH D ad N (zFr ad N s.heap.size) s.heap σ H locs) (h_mo : σ 19 = oC_mo ad mo_fields mo_bound mo_points mo_crossings mo_isKnown mo_commands mo_needleX mo_needleY mo_hasFile mo_format mo_length mo_heads mo_late mo_ran mo_program mo_thrown mo_rowY mo_stitches) (h_mo_bytes : σ 40 = .inl (cI, 70000, .inl (zA mo_bytes))) (hbg : ∀ i : Nat, i ≠ 19 → σ i = σ0 i) (ls : Array Slot) (hl : lv_has ls 6 [(0, .ref (ad 19))]), f_X7_reading_26 mo_hasFile mo_format mo_length mo_bytes mo_stitches s0 = some (R0, R_mo_stitches) → W p l e rmX7_reading s m args below meth c H locs 0 0 Q (F0 m 26 ls [.int (zI s0)]) := by
    intro mo_stitches s0 σ H locs hH h_mo h_mo_bytes hbg ls hl hf
    unfold f_X7_reading_26 at hf
    refine lv_istore_n (lv' := [(1, .int (zI s0)), (0, .ref (ad 19))]) hx hb dX7_reading_26 rfl hl (by decide) rfl (fun ls hl => ?_)
    refine lv_iconst (v := zI 0) hx hb dX7_reading_27 (by decide +kernel) ?_
    refine lv_istore_n (lv' := [(2, .int (zI 0)), (1, .int (zI s0)), (0, .ref (ad 19))]) hx hb dX7_reading_28 rfl hl (by decide) rfl (fun ls hl => ?_)
    refine lv_iconst (v := zI 0) hx hb dX7_reading_29 (by decide +kernel) ?_
    refine lv_istore_n (lv' := [(3, .int (zI 0)), (2, .int (zI 0)), (1, .int (zI s0)), (0, .ref (ad 19))]) hx hb dX7_reading_30 rfl hl (by decide) rfl (fun ls hl => ?_)
    obtain ⟨x31, k26, hf⟩ := zbs_some hf
    refine L31 s0 zFU 0 0 mo_stitches x31 k26 _ _ _ hH h_mo h_mo_bytes hbg _ (lv_sub hl [3, 2, 1, 0] rfl) (fun w27 w28 w29 hres σ30 Hσ30 lσ30 hH h_mo h_mo_bytes hbg ls hl => ?_) (fun b hres => ?_)
    rotate_left
    · rw [hres] at hf; exact hf
    rw [hres] at hf
    replace hf := show _ = _ from hf
    simp only [zsel] at hf
    refine lv_iload_n hx hb dX7_reading_116 rfl (lv_at hl 1 rfl) ?_
    refine lv_aload_n hx hb dX7_reading_117 rfl (lv_at hl 0 rfl) ?_
    refine zget hx hb inlX7 rfl 30 rfl zk_t4_143 hts hown hK hH hk_mo h_mo rfl dX7_reading_118 ?_
    obtain ⟨k33, hf⟩ := zck_some hf
    refine lz_icmp_ge (tgt := 142) hx hb k33 dX7_reading_121 (by decide) (fun c34 => ?_) (fun c34 => ?_)
    · replace hf := (if_pos c34).symm.trans hf
      exact J142 w29 w27 _ _ _ hH h_mo h_mo_bytes hbg _ (lv_sub hl [0, 1] rfl) hf
    · replace hf := (if_neg c34).symm.trans hf
      refine lv_aload_n hx hb dX7_reading_124 rfl (lv_at hl 0 rfl) ?_
      refine zget hx hb inlX7 rfl 31 rfl zk_t4_144 hts hown hK hH hk_mo h_mo rfl dX7_reading_125 ?_
      refine lv_iload_n hx hb dX7_reading_128 rfl (lv_at hl 1 rfl) ?_
      obtain ⟨k35, hf⟩ := zck_some hf
      refine ziald hx hb hK hH hk_mo_bytes 0 h_mo_bytes rfl k35 rfl dX7_reading_129 ?_
      refine lv_aload_n hx hb dX7_reading_130 rfl (lv_at hl 0 rfl) ?_
      refine lv_iload_n hx hb dX7_reading_131 rfl (lv_at hl 1 rfl) ?_
      obtain ⟨r36, k37, hf⟩ := zb1_some hf
      refine zcVi (C := RX7) (As := [.int (zI w27)]) (rest := [.int (zI (mo_bytes w27))]) hx hb hml hown hts hl.1 hK hH hA (c_X7_sumTo hI hN  h_mo h_mo_bytes k37) zk_t5_162 zk_t5_164 zk_s4_1 zk_t1_6 zk_t5_165 hd_X7_sumTo rfl ⟨rfl, rfl, Nat.le_of_ble_eq_true rfl, Nat.le_of_ble_eq_true rfl⟩ ⟨Nat.zero_le _, Nat.zero_le _⟩ hk_mo h_mo rfl rfl rfl (Nat.le_of_ble_eq_true rfl) dX7_reading_132 (fun q39 σ38 Hσ38 lσ38 hp hH => ?_)
      obtain ⟨hr1, hs1⟩ := hp; subst hr1; rw [hs1] at hH
      obtain ⟨k40, hf⟩ := zck_some hf
      refine lz_icmp_ne (tgt := 142) hx hb k40 dX7_reading_135 (by decide) (fun c41 => ?_) (fun c41 => ?_)
      · replace hf := (if_neg c41).symm.trans hf
        exact J142 w29 w27 _ _ _ hH h_mo h_mo_bytes hbg _ (lv_sub hl [0, 1] rfl) hf
      · replace hf := (if_pos c41).symm.trans hf
        refine lv_iconst (v := zI 1) hx hb dX7_reading_138 (by decide +kernel) ?_
        refine lv_goto (tgt := 143) hx hb dX7_reading_139 (by decide) ?_
        exact J143 w29 w27 1 _ _ _ hH h_mo h_mo_bytes hbg _ (lv_sub hl [0, 1] rfl) hf
  unfold f_X7_reading at hf
  refine lv_aload_n hx hb dX7_reading_0 rfl (lv_at hl 0 rfl) ?_
  refine lv_iconst (v := zI 0) hx hb dX7_reading_1 (by decide +kernel) ?_
  refine zput hx hb inlX7 tyX7 tyX7_ok nmX7 rfl 41 rfl zk_t4_154 rfl hts hown hK hH hk_mo h_mo rfl rfl rfl dX7_reading_2 (fun σ42 Hσ42 lσ42 h_mo hn hH => ?_)
  have h_mo : σ42 19 = oC_mo ad mo_fields mo_bound mo_points mo_crossings mo_isKnown mo_commands mo_needleX mo_needleY mo_hasFile mo_format mo_length mo_heads mo_late mo_ran mo_program mo_thrown mo_rowY 0 := h_mo
  have h_mo_bytes := (hn 40 (by decide)).trans h_mo_bytes
  have hbg : ∀ i : Nat, i ≠ 19 → σ42 i = σ0 i := fun i a0 => (hn i a0).trans (hbg i a0)
  refine lv_aload_n hx hb dX7_reading_5 rfl (lv_at hl 0 rfl) ?_
  refine zget hx hb inlX7 rfl 28 rfl zk_t4_141 hts hown hK hH hk_mo h_mo rfl dX7_reading_6 ?_
  obtain ⟨k43, hf⟩ := zck_some hf
  refine lz_if_ne (tgt := 14) hx hb k43 dX7_reading_9 (by decide) (fun c44 => ?_) (fun c44 => ?_)
  · replace hf := (if_neg c44).symm.trans hf
    refine lv_aload_n hx hb dX7_reading_14 rfl (lv_at hl 0 rfl) ?_
    refine zget hx hb inlX7 rfl 29 rfl zk_t4_142 hts hown hK hH hk_mo h_mo rfl dX7_reading_15 ?_
    obtain ⟨k45, hf⟩ := zck_some hf
    refine lz_if_ne (tgt := 25) hx hb k45 dX7_reading_18 (by decide) (fun c46 => ?_) (fun c46 => ?_)
    · replace hf := (if_neg c46).symm.trans hf
      refine lv_iconst (v := zI 3) hx hb dX7_reading_25 (by decide +kernel) ?_
      exact J26 0 3 _ _ _ hH h_mo h_mo_bytes hbg _ (lv_sub hl [0] rfl) hf
    · replace hf := (if_pos c46).symm.trans hf
      refine lv_iconst (v := zI 2) hx hb dX7_reading_21 (by decide +kernel) ?_
      refine lv_goto (tgt := 26) hx hb dX7_reading_22 (by decide) ?_
      exact J26 0 2 _ _ _ hH h_mo h_mo_bytes hbg _ (lv_sub hl [0] rfl) hf
  · replace hf := (if_pos c44).symm.trans hf
    refine lv_iconst (v := zI 0) hx hb dX7_reading_12 (by decide +kernel) ?_
    cases hf
    exact zreti hx hb hr hlocks hQ hH ⟨rfl, h_mo, hbg⟩ dX7_reading_13
abbrev rmX7_fault : Room := { frames := 4, cells := 0, slots := 0, locals := 95 }
theorem hd_X7_fault : yX7_fault.cls = RX7 ∧ yX7_fault.cls ≠ "java/lang/invoke/MethodHandle" ∧ yX7_fault.cls ≠ "java/lang/invoke/VarHandle" ∧ (parseMethodDescriptor yX7_fault.desc).map (fun d => d.parameters.length) = some 0 := by decide +kernel
set_option maxHeartbeats 4000000 in
set_option maxRecDepth 100000 in
theorem c_X7_fault {l : Launch} {D : va_G} {cI cZ cF cL cD : ClassId} {ad : Nat → Nat} {N : Nat} (hI : ∀ i j, i < N → j < N → ad i = ad j → i = j) (hN : 46 ≤ N) {σ0 : Nat → va_E} {sz : Nat} {mo_fields : Int} {mo_bound : Int} {mo_points : Int} {mo_crossings : Int} {mo_isKnown : Int} {mo_commands : Int} {mo_needleX : Int} {mo_needleY : Int} {mo_hasFile : Int} {mo_format : Int} {mo_length : Int} {mo_bytes : Int → Int} {mo_heads : Int} {mo_late : Int} {mo_ran : Int} {mo_program : Int} {mo_thrown : Int} {mo_rowY : Int} {mo_stitches : Int} {R0 : Int} {R_mo_thrown : Int} {R_mo_stitches : Int} (h_mo : σ0 19 = oC_mo ad mo_fields mo_bound mo_points mo_crossings mo_isKnown mo_commands mo_needleX mo_needleY mo_hasFile mo_format mo_length mo_heads mo_late mo_ran mo_program mo_thrown mo_rowY mo_stitches) (h_mo_bytes : σ0 40 = .inl (cI, 70000, .inl (zA mo_bytes))) (hf : f_X7_fault mo_hasFile mo_format mo_length mo_bytes mo_thrown mo_stitches = some (R0, R_mo_thrown, R_mo_stitches)) :
    Met l yX7_fault (Cond.code yX7_fault cX7_fault 1 (some .int) :: wsL_law) rmX7_fault (zPre D ad N (zT cI cZ cF cL cD) σ0 sz [.ref (ad 19)]) (zQi D ad N sz (fun r σ' => r = zI R0 ∧ σ' 19 = oC_mo ad mo_fields mo_bound mo_points mo_crossings mo_isKnown mo_commands mo_needleX mo_needleY mo_hasFile mo_format mo_length mo_heads mo_late mo_ran mo_program R_mo_thrown mo_rowY R_mo_stitches ∧ ∀ i : Nat, i ≠ 19 → σ' i = σ0 i)) 0 0 (zFr ad N sz) := by
  refine zMet hI (plainFor_of_name (by decide)) (Nat.le_of_ble_eq_true rfl) ⟨rfl, rfl⟩ ?_
  intro p e s m args below meth c Q hx hb hr hlocks hml hown hts hK hsz hQ hH hA ls hl
  subst hsz
  have hk_mo : 19 < N := by omega
  have hk_mo_bytes : 40 < N := by omega
  have hl : lv_has ls 1 [(0, .ref (ad 19))] := hl
  have hbg : ∀ i : Nat, i ≠ 19 → σ0 i = σ0 i := fun _ _ => rfl
  unfold f_X7_fault at hf
  refine lv_aload_n hx hb dX7_fault_0 rfl (lv_at hl 0 rfl) ?_
  refine lv_iconst (v := zI 0) hx hb dX7_fault_1 (by decide +kernel) ?_
  refine zput hx hb inlX7 tyX7 tyX7_ok nmX7 rfl 39 rfl zk_t4_152 rfl hts hown hK hH hk_mo h_mo rfl rfl rfl dX7_fault_2 (fun σ1 Hσ1 lσ1 h_mo hn hH => ?_)
  have h_mo : σ1 19 = oC_mo ad mo_fields mo_bound mo_points mo_crossings mo_isKnown mo_commands mo_needleX mo_needleY mo_hasFile mo_format mo_length mo_heads mo_late mo_ran mo_program 0 mo_rowY mo_stitches := h_mo
  have h_mo_bytes := (hn 40 (by decide)).trans h_mo_bytes
  have hbg : ∀ i : Nat, i ≠ 19 → σ1 i = σ0 i := fun i a0 => (hn i a0).trans (hbg i a0)
  refine lv_aload_n hx hb dX7_fault_5 rfl (lv_at hl 0 rfl) ?_
  obtain ⟨r2, u3, k4, hf⟩ := zb2_some hf
  refine zcVi (C := RX7) (As := []) (rest := []) hx hb hml hown hts hl.1 hK hH hA (c_X7_reading hI hN  h_mo h_mo_bytes k4) zk_t5_182 zk_t5_184 zk_s4_2 zk_t1_6 zk_t5_185 hd_X7_reading rfl ⟨rfl, rfl, Nat.le_of_ble_eq_true rfl, Nat.le_of_ble_eq_true rfl⟩ ⟨Nat.zero_le _, Nat.zero_le _⟩ hk_mo h_mo rfl rfl rfl (Nat.le_of_ble_eq_true rfl) dX7_fault_6 (fun q6 σ5 Hσ5 lσ5 hp hH => ?_)
  obtain ⟨hr1, h_mo, hn⟩ := hp
  subst hr1
  have h_mo_bytes := (hn 40 (by decide)).trans h_mo_bytes
  have hbg : ∀ i : Nat, i ≠ 19 → σ5 i = σ0 i := fun i a0 => (hn i a0).trans (hbg i a0)
  cases hf
  exact zreti hx hb hr hlocks hQ hH ⟨rfl, h_mo, hbg⟩ dX7_fault_9
abbrev rmX7_reads : Room := { frames := 4, cells := 0, slots := 0, locals := 95 }
theorem hd_X7_reads : yX7_reads.cls = RX7 ∧ yX7_reads.cls ≠ "java/lang/invoke/MethodHandle" ∧ yX7_reads.cls ≠ "java/lang/invoke/VarHandle" ∧ (parseMethodDescriptor yX7_reads.desc).map (fun d => d.parameters.length) = some 0 := by decide +kernel
set_option maxHeartbeats 4000000 in
set_option maxRecDepth 100000 in
theorem c_X7_reads {l : Launch} {D : va_G} {cI cZ cF cL cD : ClassId} {ad : Nat → Nat} {N : Nat} (hI : ∀ i j, i < N → j < N → ad i = ad j → i = j) (hN : 46 ≤ N) {σ0 : Nat → va_E} {sz : Nat} {mo_fields : Int} {mo_bound : Int} {mo_points : Int} {mo_crossings : Int} {mo_isKnown : Int} {mo_commands : Int} {mo_needleX : Int} {mo_needleY : Int} {mo_hasFile : Int} {mo_format : Int} {mo_length : Int} {mo_bytes : Int → Int} {mo_heads : Int} {mo_late : Int} {mo_ran : Int} {mo_program : Int} {mo_thrown : Int} {mo_rowY : Int} {mo_stitches : Int} {R0 : Int} {R_mo_thrown : Int} {R_mo_stitches : Int} (h_mo : σ0 19 = oC_mo ad mo_fields mo_bound mo_points mo_crossings mo_isKnown mo_commands mo_needleX mo_needleY mo_hasFile mo_format mo_length mo_heads mo_late mo_ran mo_program mo_thrown mo_rowY mo_stitches) (h_mo_bytes : σ0 40 = .inl (cI, 70000, .inl (zA mo_bytes))) (hf : f_X7_reads mo_hasFile mo_format mo_length mo_bytes mo_thrown mo_stitches = some (R0, R_mo_thrown, R_mo_stitches)) :
    Met l yX7_reads (Cond.code yX7_reads cX7_reads 2 (some .int) :: wsL_law) rmX7_reads (zPre D ad N (zT cI cZ cF cL cD) σ0 sz [.ref (ad 19)]) (zQi D ad N sz (fun r σ' => r = zI R0 ∧ σ' 19 = oC_mo ad mo_fields mo_bound mo_points mo_crossings mo_isKnown mo_commands mo_needleX mo_needleY mo_hasFile mo_format mo_length mo_heads mo_late mo_ran mo_program R_mo_thrown mo_rowY R_mo_stitches ∧ ∀ i : Nat, i ≠ 19 → σ' i = σ0 i)) 0 0 (zFr ad N sz) := by
  refine zMet hI (plainFor_of_name (by decide)) (Nat.le_of_ble_eq_true rfl) ⟨rfl, rfl⟩ ?_
  intro p e s m args below meth c Q hx hb hr hlocks hml hown hts hK hsz hQ hH hA ls hl
  subst hsz
  have hk_mo : 19 < N := by omega
  have hk_mo_bytes : 40 < N := by omega
  have hl : lv_has ls 2 [(0, .ref (ad 19))] := hl
  have hbg : ∀ i : Nat, i ≠ 19 → σ0 i = σ0 i := fun _ _ => rfl
  unfold f_X7_reads at hf
  refine lv_aload_n hx hb dX7_reads_0 rfl (lv_at hl 0 rfl) ?_
  refine lv_iconst (v := zI 0) hx hb dX7_reads_1 (by decide +kernel) ?_
  refine zput hx hb inlX7 tyX7 tyX7_ok nmX7 rfl 39 rfl zk_t4_152 rfl hts hown hK hH hk_mo h_mo rfl rfl rfl dX7_reads_2 (fun σ1 Hσ1 lσ1 h_mo hn hH => ?_)
  have h_mo : σ1 19 = oC_mo ad mo_fields mo_bound mo_points mo_crossings mo_isKnown mo_commands mo_needleX mo_needleY mo_hasFile mo_format mo_length mo_heads mo_late mo_ran mo_program 0 mo_rowY mo_stitches := h_mo
  have h_mo_bytes := (hn 40 (by decide)).trans h_mo_bytes
  have hbg : ∀ i : Nat, i ≠ 19 → σ1 i = σ0 i := fun i a0 => (hn i a0).trans (hbg i a0)
  refine lv_aload_n hx hb dX7_reads_5 rfl (lv_at hl 0 rfl) ?_
  obtain ⟨r2, u3, k4, hf⟩ := zb2_some hf
  refine zcVi (C := RX7) (As := []) (rest := []) hx hb hml hown hts hl.1 hK hH hA (c_X7_reading hI hN  h_mo h_mo_bytes k4) zk_t5_182 zk_t5_184 zk_s4_2 zk_t1_6 zk_t5_185 hd_X7_reading rfl ⟨rfl, rfl, Nat.le_of_ble_eq_true rfl, Nat.le_of_ble_eq_true rfl⟩ ⟨Nat.zero_le _, Nat.zero_le _⟩ hk_mo h_mo rfl rfl rfl (Nat.le_of_ble_eq_true rfl) dX7_reads_6 (fun q6 σ5 Hσ5 lσ5 hp hH => ?_)
  obtain ⟨hr1, h_mo, hn⟩ := hp
  subst hr1
  have h_mo_bytes := (hn 40 (by decide)).trans h_mo_bytes
  have hbg : ∀ i : Nat, i ≠ 19 → σ5 i = σ0 i := fun i a0 => (hn i a0).trans (hbg i a0)
  refine lv_istore_n (lv' := [(1, .int (zI r2)), (0, .ref (ad 19))]) hx hb dX7_reads_9 rfl hl (by decide) rfl (fun ls hl => ?_)
  refine lv_iload_n hx hb dX7_reads_10 rfl (lv_at hl 0 rfl) ?_
  refine lv_iconst (v := zI (-1)) hx hb dX7_reads_11 (by decide +kernel) ?_
  obtain ⟨k7, hf⟩ := zck_some hf
  refine lz_icmp_ge (tgt := 19) hx hb ⟨k7, by decide⟩ dX7_reads_12 (by decide) (fun c8 => ?_) (fun c8 => ?_)
  · replace hf := (if_pos c8).symm.trans hf
    refine lv_aload_n hx hb dX7_reads_19 rfl (lv_at hl 1 rfl) ?_
    refine zget hx hb inlX7 rfl 41 rfl zk_t4_154 hts hown hK hH hk_mo h_mo rfl dX7_reads_20 ?_
    cases hf
    exact zreti hx hb hr hlocks hQ hH ⟨rfl, h_mo, hbg⟩ dX7_reads_23
  · replace hf := (if_neg c8).symm.trans hf
    refine lv_iconst (v := zI 0) hx hb dX7_reads_15 (by decide +kernel) ?_
    refine lv_goto (tgt := 23) hx hb dX7_reads_16 (by decide) ?_
    cases hf
    exact zreti hx hb hr hlocks hQ hH ⟨rfl, h_mo, hbg⟩ dX7_reads_23
abbrev rmX7_start : Room := { frames := 6, cells := 0, slots := 0, locals := 150 }
theorem hd_X7_start : yX7_start.cls = RX7 ∧ yX7_start.cls ≠ "java/lang/invoke/MethodHandle" ∧ yX7_start.cls ≠ "java/lang/invoke/VarHandle" ∧ (parseMethodDescriptor yX7_start.desc).map (fun d => d.parameters.length) = some 2 := by decide +kernel
set_option maxHeartbeats 4000000 in
set_option maxRecDepth 100000 in
theorem c_X7_start {l : Launch} {D : va_G} {cI cZ cF cL cD : ClassId} {ad : Nat → Nat} {N : Nat} (hI : ∀ i j, i < N → j < N → ad i = ad j → i = j) (hN : 46 ≤ N) {σ0 : Nat → va_E} {sz : Nat} {mo_fields : Int} {mo_colour : Int → Int} {mo_layer : Int → Int} {mo_isColumn : Int → Int} {mo_corners : Int → Int} {mo_cornerX : Int → Int} {mo_cornerY : Int → Int} {mo_density : Int → Int} {mo_longest : Int → Int} {mo_shift : Int → Int} {mo_pull : Int → Int} {mo_hasUnderlay : Int → Int} {mo_bound : Int} {mo_pointX : Int → Int} {mo_pointY : Int → Int} {mo_points : Int} {mo_crossing : Int → Int} {mo_crossings : Int} {mo_isKnown : Int} {mo_commands : Int} {mo_kind : Int → Int} {mo_byX : Int → Int} {mo_byY : Int → Int} {mo_fieldOf : Int → Int} {mo_needleX : Int} {mo_needleY : Int} {mo_isSewn : Int → Int} {mo_hasFile : Int} {mo_format : Int} {mo_length : Int} {mo_heads : Int} {mo_late : Int} {mo_ran : Int} {mo_program : Int} {mo_kinds : Int → Int} {mo_brokenAt : Int → Int} {mo_sewn : Int → Int} {mo_thrown : Int} {mo_rowY : Int} {mo_stitches : Int} {p1 : Int} {p2 : Int} {R_mo_pointX : Int → Int} {R_mo_pointY : Int → Int} {R_mo_points : Int} {R_mo_crossing : Int → Int} {R_mo_crossings : Int} {R_mo_isKnown : Int} {R_mo_commands : Int} {R_mo_kind : Int → Int} {R_mo_byX : Int → Int} {R_mo_byY : Int → Int} {R_mo_fieldOf : Int → Int} {R_mo_needleX : Int} {R_mo_needleY : Int} {R_mo_isSewn : Int → Int} {R_mo_heads : Int} {R_mo_late : Int} {R_mo_ran : Int} {R_mo_program : Int} {R_mo_kinds : Int → Int} {R_mo_brokenAt : Int → Int} {R_mo_sewn : Int → Int} {R_mo_thrown : Int} {R_mo_rowY : Int} (h_mo : σ0 19 = oC_mo ad mo_fields mo_bound mo_points mo_crossings mo_isKnown mo_commands mo_needleX mo_needleY mo_hasFile mo_format mo_length mo_heads mo_late mo_ran mo_program mo_thrown mo_rowY mo_stitches) (h_mo_colour : σ0 20 = .inl (cI, 8, .inl (zA mo_colour))) (h_mo_layer : σ0 21 = .inl (cI, 8, .inl (zA mo_layer))) (h_mo_isColumn : σ0 22 = .inl (cZ, 8, .inl (zA mo_isColumn))) (h_mo_corners : σ0 23 = .inl (cI, 8, .inl (zA mo_corners))) (h_mo_cornerX : σ0 24 = .inl (cI, 64, .inl (zA mo_cornerX))) (h_mo_cornerY : σ0 25 = .inl (cI, 64, .inl (zA mo_cornerY))) (h_mo_density : σ0 26 = .inl (cI, 8, .inl (zA mo_density))) (h_mo_longest : σ0 27 = .inl (cI, 8, .inl (zA mo_longest))) (h_mo_shift : σ0 28 = .inl (cI, 8, .inl (zA mo_shift))) (h_mo_pull : σ0 29 = .inl (cI, 8, .inl (zA mo_pull))) (h_mo_hasUnderlay : σ0 30 = .inl (cZ, 8, .inl (zA mo_hasUnderlay))) (h_mo_pointX : σ0 31 = .inl (cI, 4096, .inl (zA mo_pointX))) (h_mo_pointY : σ0 32 = .inl (cI, 4096, .inl (zA mo_pointY))) (h_mo_crossing : σ0 33 = .inl (cI, 8, .inl (zA mo_crossing))) (h_mo_kind : σ0 34 = .inl (cI, 20000, .inl (zA mo_kind))) (h_mo_byX : σ0 35 = .inl (cI, 20000, .inl (zA mo_byX))) (h_mo_byY : σ0 36 = .inl (cI, 20000, .inl (zA mo_byY))) (h_mo_fieldOf : σ0 37 = .inl (cI, 20000, .inl (zA mo_fieldOf))) (h_mo_isSewn : σ0 38 = .inl (cZ, 8, .inl (zA mo_isSewn))) (h_mo_kinds : σ0 41 = .inl (cI, 20000, .inl (zA mo_kinds))) (h_mo_brokenAt : σ0 42 = .inl (cI, 4, .inl (zA mo_brokenAt))) (h_mo_sewn : σ0 43 = .inl (cI, 4, .inl (zA mo_sewn))) (hf : f_X7_start mo_fields mo_colour mo_layer mo_isColumn mo_corners mo_cornerX mo_cornerY mo_density mo_longest mo_shift mo_pull mo_hasUnderlay mo_bound mo_pointX mo_pointY mo_points mo_crossing mo_crossings mo_isKnown mo_commands mo_kind mo_byX mo_byY mo_fieldOf mo_needleX mo_needleY mo_isSewn mo_heads mo_late mo_ran mo_program mo_kinds mo_brokenAt mo_sewn mo_thrown mo_rowY p1 p2 = some (R_mo_pointX, R_mo_pointY, R_mo_points, R_mo_crossing, R_mo_crossings, R_mo_isKnown, R_mo_commands, R_mo_kind, R_mo_byX, R_mo_byY, R_mo_fieldOf, R_mo_needleX, R_mo_needleY, R_mo_isSewn, R_mo_heads, R_mo_late, R_mo_ran, R_mo_program, R_mo_kinds, R_mo_brokenAt, R_mo_sewn, R_mo_thrown, R_mo_rowY)) :
    Met l yX7_start (Cond.code yX7_start cX7_start 4 none :: wsL_law) rmX7_start (zPre D ad N (zT cI cZ cF cL cD) σ0 sz [.ref (ad 19), .int (zI p1), .int (zI p2)]) (zQv D ad N sz (fun σ' => σ' 19 = oC_mo ad mo_fields mo_bound R_mo_points R_mo_crossings R_mo_isKnown R_mo_commands R_mo_needleX R_mo_needleY mo_hasFile mo_format mo_length R_mo_heads R_mo_late R_mo_ran R_mo_program R_mo_thrown R_mo_rowY mo_stitches ∧ σ' 31 = .inl (cI, 4096, .inl (zA R_mo_pointX)) ∧ σ' 32 = .inl (cI, 4096, .inl (zA R_mo_pointY)) ∧ σ' 33 = .inl (cI, 8, .inl (zA R_mo_crossing)) ∧ σ' 34 = .inl (cI, 20000, .inl (zA R_mo_kind)) ∧ σ' 35 = .inl (cI, 20000, .inl (zA R_mo_byX)) ∧ σ' 36 = .inl (cI, 20000, .inl (zA R_mo_byY)) ∧ σ' 37 = .inl (cI, 20000, .inl (zA R_mo_fieldOf)) ∧ σ' 38 = .inl (cZ, 8, .inl (zA R_mo_isSewn)) ∧ σ' 41 = .inl (cI, 20000, .inl (zA R_mo_kinds)) ∧ σ' 42 = .inl (cI, 4, .inl (zA R_mo_brokenAt)) ∧ σ' 43 = .inl (cI, 4, .inl (zA R_mo_sewn)) ∧ ∀ i : Nat, i ≠ 19 → i ≠ 31 → i ≠ 32 → i ≠ 33 → i ≠ 34 → i ≠ 35 → i ≠ 36 → i ≠ 37 → i ≠ 38 → i ≠ 41 → i ≠ 42 → i ≠ 43 → σ' i = σ0 i)) 0 0 (zFr ad N sz) := by
  refine zMet hI (plainFor_of_name (by decide)) (Nat.le_of_ble_eq_true rfl) ⟨rfl, rfl⟩ ?_
  intro p e s m args below meth c Q hx hb hr hlocks hml hown hts hK hsz hQ hH hA ls hl
  subst hsz
  have hk_mo : 19 < N := by omega
  have hk_mo_colour : 20 < N := by omega
  have hk_mo_layer : 21 < N := by omega
  have hk_mo_isColumn : 22 < N := by omega
  have hk_mo_corners : 23 < N := by omega
  have hk_mo_cornerX : 24 < N := by omega
  have hk_mo_cornerY : 25 < N := by omega
  have hk_mo_density : 26 < N := by omega
  have hk_mo_longest : 27 < N := by omega
  have hk_mo_shift : 28 < N := by omega
  have hk_mo_pull : 29 < N := by omega
  have hk_mo_hasUnderlay : 30 < N := by omega
  have hk_mo_pointX : 31 < N := by omega
  have hk_mo_pointY : 32 < N := by omega
  have hk_mo_crossing : 33 < N := by omega
  have hk_mo_kind : 34 < N := by omega
  have hk_mo_byX : 35 < N := by omega
  have hk_mo_byY : 36 < N := by omega
  have hk_mo_fieldOf : 37 < N := by omega
  have hk_mo_isSewn : 38 < N := by omega
  have hk_mo_kinds : 41 < N := by omega
  have hk_mo_brokenAt : 42 < N := by omega
  have hk_mo_sewn : 43 < N := by omega
  have hl : lv_has ls 4 [(0, .ref (ad 19)), (1, .int (zI p1)), (2, .int (zI p2))] := hl
  have hbg : ∀ i : Nat, i ≠ 19 → i ≠ 31 → i ≠ 32 → i ≠ 33 → i ≠ 34 → i ≠ 35 → i ≠ 36 → i ≠ 37 → i ≠ 38 → i ≠ 41 → i ≠ 42 → i ≠ 43 → σ0 i = σ0 i := fun _ _ _ _ _ _ _ _ _ _ _ _ _ => rfl
  have L89 : ∀ (mo_pointX : Int → Int) (mo_pointY : Int → Int) (mo_points : Int) (mo_crossing : Int → Int) (mo_crossings : Int) (mo_isKnown : Int) (mo_commands : Int) (mo_kind : Int → Int) (mo_byX : Int → Int) (mo_byY : Int → Int) (mo_fieldOf : Int → Int) (mo_needleX : Int) (mo_needleY : Int) (mo_isSewn : Int → Int) (mo_heads : Int) (mo_late : Int) (mo_ran : Int) (mo_program : Int) (mo_kinds : Int → Int) (mo_thrown : Int) (mo_rowY : Int)  (n : Nat) (x3 : Int) (mo_brokenAt : Int → Int) (mo_sewn : Int → Int) (x3' : Int) (mo_brokenAt' : Int → Int) (mo_sewn' : Int → Int), zlp (fun z => f_X7_start_L89 mo_fields mo_colour mo_layer mo_isColumn mo_corners mo_cornerX mo_cornerY mo_density mo_longest mo_shift mo_pull mo_hasUnderlay mo_bound mo_pointX mo_pointY mo_points mo_crossing mo_crossings mo_isKnown mo_commands mo_kind mo_byX mo_byY mo_fieldOf mo_needleX mo_needleY mo_isSewn mo_heads mo_late mo_ran mo_program mo_kinds mo_thrown mo_rowY z.1 z.2.1 z.2.2) n (x3, mo_brokenAt, mo_sewn) = some (x3', mo_brokenAt', mo_sewn') → ∀ (σ : Nat → va_E) (H : Heap) (locs : List Loc) (hH : zH D ad N (zFr ad N s.heap.size) s.heap σ H locs) (h_mo : σ 19 = oC_mo ad mo_fields mo_bound mo_points mo_crossings mo_isKnown mo_commands mo_needleX mo_needleY mo_hasFile mo_format mo_length mo_heads mo_late mo_ran mo_program mo_thrown mo_rowY mo_stitches) (h_mo_colour : σ 20 = .inl (cI, 8, .inl (zA mo_colour))) (h_mo_layer : σ 21 = .inl (cI, 8, .inl (zA mo_layer))) (h_mo_isColumn : σ 22 = .inl (cZ, 8, .inl (zA mo_isColumn))) (h_mo_corners : σ 23 = .inl (cI, 8, .inl (zA mo_corners))) (h_mo_cornerX : σ 24 = .inl (cI, 64, .inl (zA mo_cornerX))) (h_mo_cornerY : σ 25 = .inl (cI, 64, .inl (zA mo_cornerY))) (h_mo_density : σ 26 = .inl (cI, 8, .inl (zA mo_density))) (h_mo_longest : σ 27 = .inl (cI, 8, .inl (zA mo_longest))) (h_mo_shift : σ 28 = .inl (cI, 8, .inl (zA mo_shift))) (h_mo_pull : σ 29 = .inl (cI, 8, .inl (zA mo_pull))) (h_mo_hasUnderlay : σ 30 = .inl (cZ, 8, .inl (zA mo_hasUnderlay))) (h_mo_pointX : σ 31 = .inl (cI, 4096, .inl (zA mo_pointX))) (h_mo_pointY : σ 32 = .inl (cI, 4096, .inl (zA mo_pointY))) (h_mo_crossing : σ 33 = .inl (cI, 8, .inl (zA mo_crossing))) (h_mo_kind : σ 34 = .inl (cI, 20000, .inl (zA mo_kind))) (h_mo_byX : σ 35 = .inl (cI, 20000, .inl (zA mo_byX))) (h_mo_byY : σ 36 = .inl (cI, 20000, .inl (zA mo_byY))) (h_mo_fieldOf : σ 37 = .inl (cI, 20000, .inl (zA mo_fieldOf))) (h_mo_isSewn : σ 38 = .inl (cZ, 8, .inl (zA mo_isSewn))) (h_mo_kinds : σ 41 = .inl (cI, 20000, .inl (zA mo_kinds))) (h_mo_brokenAt : σ 42 = .inl (cI, 4, .inl (zA mo_brokenAt))) (h_mo_sewn : σ 43 = .inl (cI, 4, .inl (zA mo_sewn))) (hbg : ∀ i : Nat, i ≠ 19 → i ≠ 31 → i ≠ 32 → i ≠ 33 → i ≠ 34 → i ≠ 35 → i ≠ 36 → i ≠ 37 → i ≠ 38 → i ≠ 41 → i ≠ 42 → i ≠ 43 → σ i = σ0 i) (ls : Array Slot) (hl : lv_has ls 4 [(0, .ref (ad 19)), (3, .int (zI x3))]), (∀ (σ : Nat → va_E) (H : Heap) (locs : List Loc) (hH : zH D ad N (zFr ad N s.heap.size) s.heap σ H locs) (h_mo : σ 19 = oC_mo ad mo_fields mo_bound mo_points mo_crossings mo_isKnown mo_commands mo_needleX mo_needleY mo_hasFile mo_format mo_length mo_heads mo_late mo_ran mo_program mo_thrown mo_rowY mo_stitches) (h_mo_colour : σ 20 = .inl (cI, 8, .inl (zA mo_colour))) (h_mo_layer : σ 21 = .inl (cI, 8, .inl (zA mo_layer))) (h_mo_isColumn : σ 22 = .inl (cZ, 8, .inl (zA mo_isColumn))) (h_mo_corners : σ 23 = .inl (cI, 8, .inl (zA mo_corners))) (h_mo_cornerX : σ 24 = .inl (cI, 64, .inl (zA mo_cornerX))) (h_mo_cornerY : σ 25 = .inl (cI, 64, .inl (zA mo_cornerY))) (h_mo_density : σ 26 = .inl (cI, 8, .inl (zA mo_density))) (h_mo_longest : σ 27 = .inl (cI, 8, .inl (zA mo_longest))) (h_mo_shift : σ 28 = .inl (cI, 8, .inl (zA mo_shift))) (h_mo_pull : σ 29 = .inl (cI, 8, .inl (zA mo_pull))) (h_mo_hasUnderlay : σ 30 = .inl (cZ, 8, .inl (zA mo_hasUnderlay))) (h_mo_pointX : σ 31 = .inl (cI, 4096, .inl (zA mo_pointX))) (h_mo_pointY : σ 32 = .inl (cI, 4096, .inl (zA mo_pointY))) (h_mo_crossing : σ 33 = .inl (cI, 8, .inl (zA mo_crossing))) (h_mo_kind : σ 34 = .inl (cI, 20000, .inl (zA mo_kind))) (h_mo_byX : σ 35 = .inl (cI, 20000, .inl (zA mo_byX))) (h_mo_byY : σ 36 = .inl (cI, 20000, .inl (zA mo_byY))) (h_mo_fieldOf : σ 37 = .inl (cI, 20000, .inl (zA mo_fieldOf))) (h_mo_isSewn : σ 38 = .inl (cZ, 8, .inl (zA mo_isSewn))) (h_mo_kinds : σ 41 = .inl (cI, 20000, .inl (zA mo_kinds))) (h_mo_brokenAt : σ 42 = .inl (cI, 4, .inl (zA (mo_brokenAt')))) (h_mo_sewn : σ 43 = .inl (cI, 4, .inl (zA (mo_sewn')))) (hbg : ∀ i : Nat, i ≠ 19 → i ≠ 31 → i ≠ 32 → i ≠ 33 → i ≠ 34 → i ≠ 35 → i ≠ 36 → i ≠ 37 → i ≠ 38 → i ≠ 41 → i ≠ 42 → i ≠ 43 → σ i = σ0 i) (ls : Array Slot) (hl : lv_has ls 4 []), W p l e rmX7_start s m args below meth c H locs 0 0 Q (F0 m 114 ls [])) → W p l e rmX7_start s m args below meth c H locs 0 0 Q (F0 m 89 ls []) := by
    intro mo_pointX mo_pointY mo_points mo_crossing mo_crossings mo_isKnown mo_commands mo_kind mo_byX mo_byY mo_fieldOf mo_needleX mo_needleY mo_isSewn mo_heads mo_late mo_ran mo_program mo_kinds mo_thrown mo_rowY n
    induction n with
    | zero => intro x3 mo_brokenAt mo_sewn x3' mo_brokenAt' mo_sewn' hz; exact (zlp_0 hz).elim
    | succ n ih =>
      intro x3 mo_brokenAt mo_sewn x3' mo_brokenAt' mo_sewn' hz σ H locs hH h_mo h_mo_colour h_mo_layer h_mo_isColumn h_mo_corners h_mo_cornerX h_mo_cornerY h_mo_density h_mo_longest h_mo_shift h_mo_pull h_mo_hasUnderlay h_mo_pointX h_mo_pointY h_mo_crossing h_mo_kind h_mo_byX h_mo_byY h_mo_fieldOf h_mo_isSewn h_mo_kinds h_mo_brokenAt h_mo_sewn hbg ls hl kx
      obtain ⟨nx, hf, hnx⟩ := zlp_some hz
      have hf : f_X7_start_L89 mo_fields mo_colour mo_layer mo_isColumn mo_corners mo_cornerX mo_cornerY mo_density mo_longest mo_shift mo_pull mo_hasUnderlay mo_bound mo_pointX mo_pointY mo_points mo_crossing mo_crossings mo_isKnown mo_commands mo_kind mo_byX mo_byY mo_fieldOf mo_needleX mo_needleY mo_isSewn mo_heads mo_late mo_ran mo_program mo_kinds mo_thrown mo_rowY x3 mo_brokenAt mo_sewn = some nx := hf
      unfold f_X7_start_L89 at hf
      refine lv_iload_n hx hb dX7_start_89 rfl (lv_at hl 1 rfl) ?_
      refine lv_iconst (v := zI 4) hx hb dX7_start_90 (by decide +kernel) ?_
      obtain ⟨k1, hf⟩ := zck_some hf
      refine lz_icmp_ge (tgt := 114) hx hb ⟨k1, by decide⟩ dX7_start_91 (by decide) (fun c2 => ?_) (fun c2 => ?_)
      · replace hf := (if_pos c2).symm.trans hf
        cases hf
        cases hnx
        exact kx _ _ _ hH h_mo h_mo_colour h_mo_layer h_mo_isColumn h_mo_corners h_mo_cornerX h_mo_cornerY h_mo_density h_mo_longest h_mo_shift h_mo_pull h_mo_hasUnderlay h_mo_pointX h_mo_pointY h_mo_crossing h_mo_kind h_mo_byX h_mo_byY h_mo_fieldOf h_mo_isSewn h_mo_kinds h_mo_brokenAt h_mo_sewn hbg _ (lv_sub hl [] rfl)
      · replace hf := (if_neg c2).symm.trans hf
        refine lv_aload_n hx hb dX7_start_94 rfl (lv_at hl 0 rfl) ?_
        refine zget hx hb inlX7 rfl 37 rfl zk_t4_150 hts hown hK hH hk_mo h_mo rfl dX7_start_95 ?_
        refine lv_iload_n hx hb dX7_start_98 rfl (lv_at hl 1 rfl) ?_
        refine lv_iconst (v := zI (-1)) hx hb dX7_start_99 (by decide +kernel) ?_
        obtain ⟨k3, hf⟩ := zck_some hf
        obtain ⟨a5, ea5, hf⟩ := zlt_some hf
        refine ziast hx hb hK hH hk_mo_brokenAt 0 h_mo_brokenAt rfl k3 rfl dX7_start_100 (fun σ4 Hσ4 lσ4 h_mo_brokenAt hn hH => ?_)
        rw [← ea5] at h_mo_brokenAt
        have h_mo := (hn 19 (by decide)).trans h_mo
        have h_mo_colour := (hn 20 (by decide)).trans h_mo_colour
        have h_mo_layer := (hn 21 (by decide)).trans h_mo_layer
        have h_mo_isColumn := (hn 22 (by decide)).trans h_mo_isColumn
        have h_mo_corners := (hn 23 (by decide)).trans h_mo_corners
        have h_mo_cornerX := (hn 24 (by decide)).trans h_mo_cornerX
        have h_mo_cornerY := (hn 25 (by decide)).trans h_mo_cornerY
        have h_mo_density := (hn 26 (by decide)).trans h_mo_density
        have h_mo_longest := (hn 27 (by decide)).trans h_mo_longest
        have h_mo_shift := (hn 28 (by decide)).trans h_mo_shift
        have h_mo_pull := (hn 29 (by decide)).trans h_mo_pull
        have h_mo_hasUnderlay := (hn 30 (by decide)).trans h_mo_hasUnderlay
        have h_mo_pointX := (hn 31 (by decide)).trans h_mo_pointX
        have h_mo_pointY := (hn 32 (by decide)).trans h_mo_pointY
        have h_mo_crossing := (hn 33 (by decide)).trans h_mo_crossing
        have h_mo_kind := (hn 34 (by decide)).trans h_mo_kind
        have h_mo_byX := (hn 35 (by decide)).trans h_mo_byX
        have h_mo_byY := (hn 36 (by decide)).trans h_mo_byY
        have h_mo_fieldOf := (hn 37 (by decide)).trans h_mo_fieldOf
        have h_mo_isSewn := (hn 38 (by decide)).trans h_mo_isSewn
        have h_mo_kinds := (hn 41 (by decide)).trans h_mo_kinds
        have h_mo_sewn := (hn 43 (by decide)).trans h_mo_sewn
        have hbg : ∀ i : Nat, i ≠ 19 → i ≠ 31 → i ≠ 32 → i ≠ 33 → i ≠ 34 → i ≠ 35 → i ≠ 36 → i ≠ 37 → i ≠ 38 → i ≠ 41 → i ≠ 42 → i ≠ 43 → σ4 i = σ0 i := fun i a0 a1 a2 a3 a4 a5 a6 a7 a8 a9 a10 a11 => (hn i a10).trans (hbg i a0 a1 a2 a3 a4 a5 a6 a7 a8 a9 a10 a11)
        refine lv_aload_n hx hb dX7_start_101 rfl (lv_at hl 0 rfl) ?_
        refine zget hx hb inlX7 rfl 38 rfl zk_t4_151 hts hown hK hH hk_mo h_mo rfl dX7_start_102 ?_
        refine lv_iload_n hx hb dX7_start_105 rfl (lv_at hl 1 rfl) ?_
        refine lv_iconst (v := zI 0) hx hb dX7_start_106 (by decide +kernel) ?_
        obtain ⟨k6, hf⟩ := zck_some hf
        obtain ⟨a8, ea8, hf⟩ := zlt_some hf
        refine ziast hx hb hK hH hk_mo_sewn 0 h_mo_sewn rfl k6 rfl dX7_start_107 (fun σ7 Hσ7 lσ7 h_mo_sewn hn hH => ?_)
        rw [← ea8] at h_mo_sewn
        have h_mo := (hn 19 (by decide)).trans h_mo
        have h_mo_colour := (hn 20 (by decide)).trans h_mo_colour
        have h_mo_layer := (hn 21 (by decide)).trans h_mo_layer
        have h_mo_isColumn := (hn 22 (by decide)).trans h_mo_isColumn
        have h_mo_corners := (hn 23 (by decide)).trans h_mo_corners
        have h_mo_cornerX := (hn 24 (by decide)).trans h_mo_cornerX
        have h_mo_cornerY := (hn 25 (by decide)).trans h_mo_cornerY
        have h_mo_density := (hn 26 (by decide)).trans h_mo_density
        have h_mo_longest := (hn 27 (by decide)).trans h_mo_longest
        have h_mo_shift := (hn 28 (by decide)).trans h_mo_shift
        have h_mo_pull := (hn 29 (by decide)).trans h_mo_pull
        have h_mo_hasUnderlay := (hn 30 (by decide)).trans h_mo_hasUnderlay
        have h_mo_pointX := (hn 31 (by decide)).trans h_mo_pointX
        have h_mo_pointY := (hn 32 (by decide)).trans h_mo_pointY
        have h_mo_crossing := (hn 33 (by decide)).trans h_mo_crossing
        have h_mo_kind := (hn 34 (by decide)).trans h_mo_kind
        have h_mo_byX := (hn 35 (by decide)).trans h_mo_byX
        have h_mo_byY := (hn 36 (by decide)).trans h_mo_byY
        have h_mo_fieldOf := (hn 37 (by decide)).trans h_mo_fieldOf
        have h_mo_isSewn := (hn 38 (by decide)).trans h_mo_isSewn
        have h_mo_kinds := (hn 41 (by decide)).trans h_mo_kinds
        have h_mo_brokenAt := (hn 42 (by decide)).trans h_mo_brokenAt
        have hbg : ∀ i : Nat, i ≠ 19 → i ≠ 31 → i ≠ 32 → i ≠ 33 → i ≠ 34 → i ≠ 35 → i ≠ 36 → i ≠ 37 → i ≠ 38 → i ≠ 41 → i ≠ 42 → i ≠ 43 → σ7 i = σ0 i := fun i a0 a1 a2 a3 a4 a5 a6 a7 a8 a9 a10 a11 => (hn i a11).trans (hbg i a0 a1 a2 a3 a4 a5 a6 a7 a8 a9 a10 a11)
        refine lz_iinc (lv' := [(3, .int (zI (x3 + 1))), (0, .ref (ad 19))]) hx hb dX7_start_108 hl (j := 1) rfl (by decide) rfl (fun ls hl => ?_)
        refine lv_goto (tgt := 89) hx hb dX7_start_111 (by decide) ?_
        cases hf
        exact ih (x3 + 1) a5 a8 _ _ _ hnx _ _ _ hH h_mo h_mo_colour h_mo_layer h_mo_isColumn h_mo_corners h_mo_cornerX h_mo_cornerY h_mo_density h_mo_longest h_mo_shift h_mo_pull h_mo_hasUnderlay h_mo_pointX h_mo_pointY h_mo_crossing h_mo_kind h_mo_byX h_mo_byY h_mo_fieldOf h_mo_isSewn h_mo_kinds h_mo_brokenAt h_mo_sewn hbg _ (lv_sub hl [1, 0] rfl) kx
  have L61 : ∀ (mo_pointX : Int → Int) (mo_pointY : Int → Int) (mo_points : Int) (mo_crossing : Int → Int) (mo_crossings : Int) (mo_isKnown : Int) (mo_commands : Int) (mo_kind : Int → Int) (mo_byX : Int → Int) (mo_byY : Int → Int) (mo_fieldOf : Int → Int) (mo_needleX : Int) (mo_needleY : Int) (mo_isSewn : Int → Int) (mo_heads : Int) (mo_late : Int) (mo_ran : Int) (mo_program : Int) (mo_brokenAt : Int → Int) (mo_sewn : Int → Int) (mo_thrown : Int) (mo_rowY : Int)  (n : Nat) (x3 : Int) (mo_kinds : Int → Int) (x3' : Int) (mo_kinds' : Int → Int), zlp (fun z => f_X7_start_L61 mo_fields mo_colour mo_layer mo_isColumn mo_corners mo_cornerX mo_cornerY mo_density mo_longest mo_shift mo_pull mo_hasUnderlay mo_bound mo_pointX mo_pointY mo_points mo_crossing mo_crossings mo_isKnown mo_commands mo_kind mo_byX mo_byY mo_fieldOf mo_needleX mo_needleY mo_isSewn mo_heads mo_late mo_ran mo_program mo_brokenAt mo_sewn mo_thrown mo_rowY z.1 z.2) n (x3, mo_kinds) = some (x3', mo_kinds') → ∀ (σ : Nat → va_E) (H : Heap) (locs : List Loc) (hH : zH D ad N (zFr ad N s.heap.size) s.heap σ H locs) (h_mo : σ 19 = oC_mo ad mo_fields mo_bound mo_points mo_crossings mo_isKnown mo_commands mo_needleX mo_needleY mo_hasFile mo_format mo_length mo_heads mo_late mo_ran mo_program mo_thrown mo_rowY mo_stitches) (h_mo_colour : σ 20 = .inl (cI, 8, .inl (zA mo_colour))) (h_mo_layer : σ 21 = .inl (cI, 8, .inl (zA mo_layer))) (h_mo_isColumn : σ 22 = .inl (cZ, 8, .inl (zA mo_isColumn))) (h_mo_corners : σ 23 = .inl (cI, 8, .inl (zA mo_corners))) (h_mo_cornerX : σ 24 = .inl (cI, 64, .inl (zA mo_cornerX))) (h_mo_cornerY : σ 25 = .inl (cI, 64, .inl (zA mo_cornerY))) (h_mo_density : σ 26 = .inl (cI, 8, .inl (zA mo_density))) (h_mo_longest : σ 27 = .inl (cI, 8, .inl (zA mo_longest))) (h_mo_shift : σ 28 = .inl (cI, 8, .inl (zA mo_shift))) (h_mo_pull : σ 29 = .inl (cI, 8, .inl (zA mo_pull))) (h_mo_hasUnderlay : σ 30 = .inl (cZ, 8, .inl (zA mo_hasUnderlay))) (h_mo_pointX : σ 31 = .inl (cI, 4096, .inl (zA mo_pointX))) (h_mo_pointY : σ 32 = .inl (cI, 4096, .inl (zA mo_pointY))) (h_mo_crossing : σ 33 = .inl (cI, 8, .inl (zA mo_crossing))) (h_mo_kind : σ 34 = .inl (cI, 20000, .inl (zA mo_kind))) (h_mo_byX : σ 35 = .inl (cI, 20000, .inl (zA mo_byX))) (h_mo_byY : σ 36 = .inl (cI, 20000, .inl (zA mo_byY))) (h_mo_fieldOf : σ 37 = .inl (cI, 20000, .inl (zA mo_fieldOf))) (h_mo_isSewn : σ 38 = .inl (cZ, 8, .inl (zA mo_isSewn))) (h_mo_kinds : σ 41 = .inl (cI, 20000, .inl (zA mo_kinds))) (h_mo_brokenAt : σ 42 = .inl (cI, 4, .inl (zA mo_brokenAt))) (h_mo_sewn : σ 43 = .inl (cI, 4, .inl (zA mo_sewn))) (hbg : ∀ i : Nat, i ≠ 19 → i ≠ 31 → i ≠ 32 → i ≠ 33 → i ≠ 34 → i ≠ 35 → i ≠ 36 → i ≠ 37 → i ≠ 38 → i ≠ 41 → i ≠ 42 → i ≠ 43 → σ i = σ0 i) (ls : Array Slot) (hl : lv_has ls 4 [(0, .ref (ad 19)), (3, .int (zI x3))]), (∀ (σ : Nat → va_E) (H : Heap) (locs : List Loc) (hH : zH D ad N (zFr ad N s.heap.size) s.heap σ H locs) (h_mo : σ 19 = oC_mo ad mo_fields mo_bound mo_points mo_crossings mo_isKnown mo_commands mo_needleX mo_needleY mo_hasFile mo_format mo_length mo_heads mo_late mo_ran mo_program mo_thrown mo_rowY mo_stitches) (h_mo_colour : σ 20 = .inl (cI, 8, .inl (zA mo_colour))) (h_mo_layer : σ 21 = .inl (cI, 8, .inl (zA mo_layer))) (h_mo_isColumn : σ 22 = .inl (cZ, 8, .inl (zA mo_isColumn))) (h_mo_corners : σ 23 = .inl (cI, 8, .inl (zA mo_corners))) (h_mo_cornerX : σ 24 = .inl (cI, 64, .inl (zA mo_cornerX))) (h_mo_cornerY : σ 25 = .inl (cI, 64, .inl (zA mo_cornerY))) (h_mo_density : σ 26 = .inl (cI, 8, .inl (zA mo_density))) (h_mo_longest : σ 27 = .inl (cI, 8, .inl (zA mo_longest))) (h_mo_shift : σ 28 = .inl (cI, 8, .inl (zA mo_shift))) (h_mo_pull : σ 29 = .inl (cI, 8, .inl (zA mo_pull))) (h_mo_hasUnderlay : σ 30 = .inl (cZ, 8, .inl (zA mo_hasUnderlay))) (h_mo_pointX : σ 31 = .inl (cI, 4096, .inl (zA mo_pointX))) (h_mo_pointY : σ 32 = .inl (cI, 4096, .inl (zA mo_pointY))) (h_mo_crossing : σ 33 = .inl (cI, 8, .inl (zA mo_crossing))) (h_mo_kind : σ 34 = .inl (cI, 20000, .inl (zA mo_kind))) (h_mo_byX : σ 35 = .inl (cI, 20000, .inl (zA mo_byX))) (h_mo_byY : σ 36 = .inl (cI, 20000, .inl (zA mo_byY))) (h_mo_fieldOf : σ 37 = .inl (cI, 20000, .inl (zA mo_fieldOf))) (h_mo_isSewn : σ 38 = .inl (cZ, 8, .inl (zA mo_isSewn))) (h_mo_kinds : σ 41 = .inl (cI, 20000, .inl (zA (mo_kinds')))) (h_mo_brokenAt : σ 42 = .inl (cI, 4, .inl (zA mo_brokenAt))) (h_mo_sewn : σ 43 = .inl (cI, 4, .inl (zA mo_sewn))) (hbg : ∀ i : Nat, i ≠ 19 → i ≠ 31 → i ≠ 32 → i ≠ 33 → i ≠ 34 → i ≠ 35 → i ≠ 36 → i ≠ 37 → i ≠ 38 → i ≠ 41 → i ≠ 42 → i ≠ 43 → σ i = σ0 i) (ls : Array Slot) (hl : lv_has ls 4 [(0, .ref (ad 19))]), W p l e rmX7_start s m args below meth c H locs 0 0 Q (F0 m 87 ls [])) → W p l e rmX7_start s m args below meth c H locs 0 0 Q (F0 m 61 ls []) := by
    intro mo_pointX mo_pointY mo_points mo_crossing mo_crossings mo_isKnown mo_commands mo_kind mo_byX mo_byY mo_fieldOf mo_needleX mo_needleY mo_isSewn mo_heads mo_late mo_ran mo_program mo_brokenAt mo_sewn mo_thrown mo_rowY n
    induction n with
    | zero => intro x3 mo_kinds x3' mo_kinds' hz; exact (zlp_0 hz).elim
    | succ n ih =>
      intro x3 mo_kinds x3' mo_kinds' hz σ H locs hH h_mo h_mo_colour h_mo_layer h_mo_isColumn h_mo_corners h_mo_cornerX h_mo_cornerY h_mo_density h_mo_longest h_mo_shift h_mo_pull h_mo_hasUnderlay h_mo_pointX h_mo_pointY h_mo_crossing h_mo_kind h_mo_byX h_mo_byY h_mo_fieldOf h_mo_isSewn h_mo_kinds h_mo_brokenAt h_mo_sewn hbg ls hl kx
      obtain ⟨nx, hf, hnx⟩ := zlp_some hz
      have hf : f_X7_start_L61 mo_fields mo_colour mo_layer mo_isColumn mo_corners mo_cornerX mo_cornerY mo_density mo_longest mo_shift mo_pull mo_hasUnderlay mo_bound mo_pointX mo_pointY mo_points mo_crossing mo_crossings mo_isKnown mo_commands mo_kind mo_byX mo_byY mo_fieldOf mo_needleX mo_needleY mo_isSewn mo_heads mo_late mo_ran mo_program mo_brokenAt mo_sewn mo_thrown mo_rowY x3 mo_kinds = some nx := hf
      unfold f_X7_start_L61 at hf
      refine lv_iload_n hx hb dX7_start_61 rfl (lv_at hl 1 rfl) ?_
      refine lv_aload_n hx hb dX7_start_62 rfl (lv_at hl 0 rfl) ?_
      refine zget hx hb inlX7 rfl 19 rfl zk_t4_132 hts hown hK hH hk_mo h_mo rfl dX7_start_63 ?_
      obtain ⟨k9, hf⟩ := zck_some hf
      refine lz_icmp_ge (tgt := 87) hx hb k9 dX7_start_66 (by decide) (fun c10 => ?_) (fun c10 => ?_)
      · replace hf := (if_pos c10).symm.trans hf
        cases hf
        cases hnx
        exact kx _ _ _ hH h_mo h_mo_colour h_mo_layer h_mo_isColumn h_mo_corners h_mo_cornerX h_mo_cornerY h_mo_density h_mo_longest h_mo_shift h_mo_pull h_mo_hasUnderlay h_mo_pointX h_mo_pointY h_mo_crossing h_mo_kind h_mo_byX h_mo_byY h_mo_fieldOf h_mo_isSewn h_mo_kinds h_mo_brokenAt h_mo_sewn hbg _ (lv_sub hl [0] rfl)
      · replace hf := (if_neg c10).symm.trans hf
        refine lv_aload_n hx hb dX7_start_69 rfl (lv_at hl 0 rfl) ?_
        refine zget hx hb inlX7 rfl 36 rfl zk_t4_149 hts hown hK hH hk_mo h_mo rfl dX7_start_70 ?_
        refine lv_iload_n hx hb dX7_start_73 rfl (lv_at hl 1 rfl) ?_
        refine lv_aload_n hx hb dX7_start_74 rfl (lv_at hl 0 rfl) ?_
        refine zget hx hb inlX7 rfl 20 rfl zk_t4_133 hts hown hK hH hk_mo h_mo rfl dX7_start_75 ?_
        refine lv_iload_n hx hb dX7_start_78 rfl (lv_at hl 1 rfl) ?_
        obtain ⟨k11, hf⟩ := zck_some hf
        refine ziald hx hb hK hH hk_mo_kind 0 h_mo_kind rfl k11 rfl dX7_start_79 ?_
        obtain ⟨k12, hf⟩ := zck_some hf
        obtain ⟨a14, ea14, hf⟩ := zlt_some hf
        refine ziast hx hb hK hH hk_mo_kinds 0 h_mo_kinds rfl k12 rfl dX7_start_80 (fun σ13 Hσ13 lσ13 h_mo_kinds hn hH => ?_)
        rw [← ea14] at h_mo_kinds
        have h_mo := (hn 19 (by decide)).trans h_mo
        have h_mo_colour := (hn 20 (by decide)).trans h_mo_colour
        have h_mo_layer := (hn 21 (by decide)).trans h_mo_layer
        have h_mo_isColumn := (hn 22 (by decide)).trans h_mo_isColumn
        have h_mo_corners := (hn 23 (by decide)).trans h_mo_corners
        have h_mo_cornerX := (hn 24 (by decide)).trans h_mo_cornerX
        have h_mo_cornerY := (hn 25 (by decide)).trans h_mo_cornerY
        have h_mo_density := (hn 26 (by decide)).trans h_mo_density
        have h_mo_longest := (hn 27 (by decide)).trans h_mo_longest
        have h_mo_shift := (hn 28 (by decide)).trans h_mo_shift
        have h_mo_pull := (hn 29 (by decide)).trans h_mo_pull
        have h_mo_hasUnderlay := (hn 30 (by decide)).trans h_mo_hasUnderlay
        have h_mo_pointX := (hn 31 (by decide)).trans h_mo_pointX
        have h_mo_pointY := (hn 32 (by decide)).trans h_mo_pointY
        have h_mo_crossing := (hn 33 (by decide)).trans h_mo_crossing
        have h_mo_kind := (hn 34 (by decide)).trans h_mo_kind
        have h_mo_byX := (hn 35 (by decide)).trans h_mo_byX
        have h_mo_byY := (hn 36 (by decide)).trans h_mo_byY
        have h_mo_fieldOf := (hn 37 (by decide)).trans h_mo_fieldOf
        have h_mo_isSewn := (hn 38 (by decide)).trans h_mo_isSewn
        have h_mo_brokenAt := (hn 42 (by decide)).trans h_mo_brokenAt
        have h_mo_sewn := (hn 43 (by decide)).trans h_mo_sewn
        have hbg : ∀ i : Nat, i ≠ 19 → i ≠ 31 → i ≠ 32 → i ≠ 33 → i ≠ 34 → i ≠ 35 → i ≠ 36 → i ≠ 37 → i ≠ 38 → i ≠ 41 → i ≠ 42 → i ≠ 43 → σ13 i = σ0 i := fun i a0 a1 a2 a3 a4 a5 a6 a7 a8 a9 a10 a11 => (hn i a9).trans (hbg i a0 a1 a2 a3 a4 a5 a6 a7 a8 a9 a10 a11)
        refine lz_iinc (lv' := [(3, .int (zI (x3 + 1))), (0, .ref (ad 19))]) hx hb dX7_start_81 hl (j := 1) rfl (by decide) rfl (fun ls hl => ?_)
        refine lv_goto (tgt := 61) hx hb dX7_start_84 (by decide) ?_
        cases hf
        exact ih (x3 + 1) a14 _ _ hnx _ _ _ hH h_mo h_mo_colour h_mo_layer h_mo_isColumn h_mo_corners h_mo_cornerX h_mo_cornerY h_mo_density h_mo_longest h_mo_shift h_mo_pull h_mo_hasUnderlay h_mo_pointX h_mo_pointY h_mo_crossing h_mo_kind h_mo_byX h_mo_byY h_mo_fieldOf h_mo_isSewn h_mo_kinds h_mo_brokenAt h_mo_sewn hbg _ (lv_sub hl [1, 0] rfl) kx
  have J25 : ∀ (mo_pointX : Int → Int) (mo_pointY : Int → Int) (mo_points : Int) (mo_crossing : Int → Int) (mo_crossings : Int) (mo_isKnown : Int) (mo_commands : Int) (mo_kind : Int → Int) (mo_byX : Int → Int) (mo_byY : Int → Int) (mo_fieldOf : Int → Int) (mo_needleX : Int) (mo_needleY : Int) (mo_isSewn : Int → Int) (mo_heads : Int) (mo_late : Int) (mo_ran : Int) (mo_program : Int) (mo_kinds : Int → Int) (mo_brokenAt : Int → Int) (mo_sewn : Int → Int) (mo_thrown : Int) (mo_rowY : Int) (x1 : Int) (x2 : Int) (s1 : Int) (σ : Nat → va_E) (H : Heap) (locs : List Loc) (hH : zH D ad N (zFr ad N s.heap.size) s.heap σ H locs) (h_mo : σ 19 = oC_mo ad mo_fields mo_bound mo_points mo_crossings mo_isKnown mo_commands mo_needleX mo_needleY mo_hasFile mo_format mo_length mo_heads mo_late mo_ran mo_program mo_thrown mo_rowY mo_stitches) (h_mo_colour : σ 20 = .inl (cI, 8, .inl (zA mo_colour))) (h_mo_layer : σ 21 = .inl (cI, 8, .inl (zA mo_layer))) (h_mo_isColumn : σ 22 = .inl (cZ, 8, .inl (zA mo_isColumn))) (h_mo_corners : σ 23 = .inl (cI, 8, .inl (zA mo_corners))) (h_mo_cornerX : σ 24 = .inl (cI, 64, .inl (zA mo_cornerX))) (h_mo_cornerY : σ 25 = .inl (cI, 64, .inl (zA mo_cornerY))) (h_mo_density : σ 26 = .inl (cI, 8, .inl (zA mo_density))) (h_mo_longest : σ 27 = .inl (cI, 8, .inl (zA mo_longest))) (h_mo_shift : σ 28 = .inl (cI, 8, .inl (zA mo_shift))) (h_mo_pull : σ 29 = .inl (cI, 8, .inl (zA mo_pull))) (h_mo_hasUnderlay : σ 30 = .inl (cZ, 8, .inl (zA mo_hasUnderlay))) (h_mo_pointX : σ 31 = .inl (cI, 4096, .inl (zA mo_pointX))) (h_mo_pointY : σ 32 = .inl (cI, 4096, .inl (zA mo_pointY))) (h_mo_crossing : σ 33 = .inl (cI, 8, .inl (zA mo_crossing))) (h_mo_kind : σ 34 = .inl (cI, 20000, .inl (zA mo_kind))) (h_mo_byX : σ 35 = .inl (cI, 20000, .inl (zA mo_byX))) (h_mo_byY : σ 36 = .inl (cI, 20000, .inl (zA mo_byY))) (h_mo_fieldOf : σ 37 = .inl (cI, 20000, .inl (zA mo_fieldOf))) (h_mo_isSewn : σ 38 = .inl (cZ, 8, .inl (zA mo_isSewn))) (h_mo_kinds : σ 41 = .inl (cI, 20000, .inl (zA mo_kinds))) (h_mo_brokenAt : σ 42 = .inl (cI, 4, .inl (zA mo_brokenAt))) (h_mo_sewn : σ 43 = .inl (cI, 4, .inl (zA mo_sewn))) (hbg : ∀ i : Nat, i ≠ 19 → i ≠ 31 → i ≠ 32 → i ≠ 33 → i ≠ 34 → i ≠ 35 → i ≠ 36 → i ≠ 37 → i ≠ 38 → i ≠ 41 → i ≠ 42 → i ≠ 43 → σ i = σ0 i) (ls : Array Slot) (hl : lv_has ls 4 [(0, .ref (ad 19)), (1, .int (zI x1)), (2, .int (zI x2))]), f_X7_start_25 mo_fields mo_colour mo_layer mo_isColumn mo_corners mo_cornerX mo_cornerY mo_density mo_longest mo_shift mo_pull mo_hasUnderlay mo_bound mo_pointX mo_pointY mo_points mo_crossing mo_crossings mo_isKnown mo_commands mo_kind mo_byX mo_byY mo_fieldOf mo_needleX mo_needleY mo_isSewn mo_heads mo_late mo_ran mo_program mo_kinds mo_brokenAt mo_sewn mo_thrown mo_rowY x1 x2 s1 = some (R_mo_pointX, R_mo_pointY, R_mo_points, R_mo_crossing, R_mo_crossings, R_mo_isKnown, R_mo_commands, R_mo_kind, R_mo_byX, R_mo_byY, R_mo_fieldOf, R_mo_needleX, R_mo_needleY, R_mo_isSewn, R_mo_heads, R_mo_late, R_mo_ran, R_mo_program, R_mo_kinds, R_mo_brokenAt, R_mo_sewn, R_mo_thrown, R_mo_rowY) → W p l e rmX7_start s m args below meth c H locs 0 0 Q (F0 m 25 ls [.int (zI s1), .ref (ad 19)]) := by
    intro mo_pointX mo_pointY mo_points mo_crossing mo_crossings mo_isKnown mo_commands mo_kind mo_byX mo_byY mo_fieldOf mo_needleX mo_needleY mo_isSewn mo_heads mo_late mo_ran mo_program mo_kinds mo_brokenAt mo_sewn mo_thrown mo_rowY x1 x2 s1 σ H locs hH h_mo h_mo_colour h_mo_layer h_mo_isColumn h_mo_corners h_mo_cornerX h_mo_cornerY h_mo_density h_mo_longest h_mo_shift h_mo_pull h_mo_hasUnderlay h_mo_pointX h_mo_pointY h_mo_crossing h_mo_kind h_mo_byX h_mo_byY h_mo_fieldOf h_mo_isSewn h_mo_kinds h_mo_brokenAt h_mo_sewn hbg ls hl hf
    unfold f_X7_start_25 at hf
    obtain ⟨r15, u16, k17, hf⟩ := zb2_some hf
    refine zcVi (C := RX7) (As := [.int (zI s1)]) (rest := []) hx hb hml hown hts hl.1 hK hH hA (c_X7_asks hI hN  h_mo k17) zk_t5_11 zk_t5_13 zk_s2_13 zk_t1_6 zk_t5_14 hd_X7_asks rfl ⟨rfl, rfl, Nat.le_of_ble_eq_true rfl, Nat.le_of_ble_eq_true rfl⟩ ⟨Nat.zero_le _, Nat.zero_le _⟩ hk_mo h_mo rfl rfl rfl (Nat.le_of_ble_eq_true rfl) dX7_start_25 (fun q19 σ18 Hσ18 lσ18 hp hH => ?_)
    obtain ⟨hr1, h_mo, hn⟩ := hp
    subst hr1
    have h_mo_colour := (hn 20 (by decide)).trans h_mo_colour
    have h_mo_layer := (hn 21 (by decide)).trans h_mo_layer
    have h_mo_isColumn := (hn 22 (by decide)).trans h_mo_isColumn
    have h_mo_corners := (hn 23 (by decide)).trans h_mo_corners
    have h_mo_cornerX := (hn 24 (by decide)).trans h_mo_cornerX
    have h_mo_cornerY := (hn 25 (by decide)).trans h_mo_cornerY
    have h_mo_density := (hn 26 (by decide)).trans h_mo_density
    have h_mo_longest := (hn 27 (by decide)).trans h_mo_longest
    have h_mo_shift := (hn 28 (by decide)).trans h_mo_shift
    have h_mo_pull := (hn 29 (by decide)).trans h_mo_pull
    have h_mo_hasUnderlay := (hn 30 (by decide)).trans h_mo_hasUnderlay
    have h_mo_pointX := (hn 31 (by decide)).trans h_mo_pointX
    have h_mo_pointY := (hn 32 (by decide)).trans h_mo_pointY
    have h_mo_crossing := (hn 33 (by decide)).trans h_mo_crossing
    have h_mo_kind := (hn 34 (by decide)).trans h_mo_kind
    have h_mo_byX := (hn 35 (by decide)).trans h_mo_byX
    have h_mo_byY := (hn 36 (by decide)).trans h_mo_byY
    have h_mo_fieldOf := (hn 37 (by decide)).trans h_mo_fieldOf
    have h_mo_isSewn := (hn 38 (by decide)).trans h_mo_isSewn
    have h_mo_kinds := (hn 41 (by decide)).trans h_mo_kinds
    have h_mo_brokenAt := (hn 42 (by decide)).trans h_mo_brokenAt
    have h_mo_sewn := (hn 43 (by decide)).trans h_mo_sewn
    have hbg : ∀ i : Nat, i ≠ 19 → i ≠ 31 → i ≠ 32 → i ≠ 33 → i ≠ 34 → i ≠ 35 → i ≠ 36 → i ≠ 37 → i ≠ 38 → i ≠ 41 → i ≠ 42 → i ≠ 43 → σ18 i = σ0 i := fun i a0 a1 a2 a3 a4 a5 a6 a7 a8 a9 a10 a11 => (hn i a0).trans (hbg i a0 a1 a2 a3 a4 a5 a6 a7 a8 a9 a10 a11)
    obtain ⟨k20, hf⟩ := zck_some hf
    refine lz_if_ne (tgt := 32) hx hb k20 dX7_start_28 (by decide) (fun c21 => ?_) (fun c21 => ?_)
    · replace hf := (if_neg c21).symm.trans hf
      refine lv_aload_n hx hb dX7_start_32 rfl (lv_at hl 0 rfl) ?_
      obtain ⟨a22, a23, u24, a25, u26, u27, u28, a29, a30, a31, a32, u33, u34, a35, u36, k37, hf⟩ := zb15_some hf
      refine zcVv (C := RX7) (As := []) (rest := []) hx hb hml hown hts hl.1 hK hH hA (c_X7_reckons hI hN  h_mo h_mo_colour h_mo_layer h_mo_isColumn h_mo_corners h_mo_cornerX h_mo_cornerY h_mo_density h_mo_longest h_mo_shift h_mo_pull h_mo_hasUnderlay h_mo_pointX h_mo_pointY h_mo_crossing h_mo_kind h_mo_byX h_mo_byY h_mo_fieldOf h_mo_isSewn k37) zk_t5_43 zk_t5_45 zk_s3_0 zk_t1_6 zk_t5_46 hd_X7_reckons rfl ⟨rfl, rfl, Nat.le_of_ble_eq_true rfl, Nat.le_of_ble_eq_true rfl⟩ ⟨Nat.zero_le _, Nat.zero_le _⟩ hk_mo h_mo rfl rfl rfl (Nat.le_of_ble_eq_true rfl) dX7_start_33 (fun σ38 Hσ38 lσ38 hp hH => ?_)
      obtain ⟨h_mo, h_mo_pointX, h_mo_pointY, h_mo_crossing, h_mo_kind, h_mo_byX, h_mo_byY, h_mo_fieldOf, h_mo_isSewn, hn⟩ := hp
      have h_mo_colour := (hn 20 (by decide) (by decide) (by decide) (by decide) (by decide) (by decide) (by decide) (by decide) (by decide)).trans h_mo_colour
      have h_mo_layer := (hn 21 (by decide) (by decide) (by decide) (by decide) (by decide) (by decide) (by decide) (by decide) (by decide)).trans h_mo_layer
      have h_mo_isColumn := (hn 22 (by decide) (by decide) (by decide) (by decide) (by decide) (by decide) (by decide) (by decide) (by decide)).trans h_mo_isColumn
      have h_mo_corners := (hn 23 (by decide) (by decide) (by decide) (by decide) (by decide) (by decide) (by decide) (by decide) (by decide)).trans h_mo_corners
      have h_mo_cornerX := (hn 24 (by decide) (by decide) (by decide) (by decide) (by decide) (by decide) (by decide) (by decide) (by decide)).trans h_mo_cornerX
      have h_mo_cornerY := (hn 25 (by decide) (by decide) (by decide) (by decide) (by decide) (by decide) (by decide) (by decide) (by decide)).trans h_mo_cornerY
      have h_mo_density := (hn 26 (by decide) (by decide) (by decide) (by decide) (by decide) (by decide) (by decide) (by decide) (by decide)).trans h_mo_density
      have h_mo_longest := (hn 27 (by decide) (by decide) (by decide) (by decide) (by decide) (by decide) (by decide) (by decide) (by decide)).trans h_mo_longest
      have h_mo_shift := (hn 28 (by decide) (by decide) (by decide) (by decide) (by decide) (by decide) (by decide) (by decide) (by decide)).trans h_mo_shift
      have h_mo_pull := (hn 29 (by decide) (by decide) (by decide) (by decide) (by decide) (by decide) (by decide) (by decide) (by decide)).trans h_mo_pull
      have h_mo_hasUnderlay := (hn 30 (by decide) (by decide) (by decide) (by decide) (by decide) (by decide) (by decide) (by decide) (by decide)).trans h_mo_hasUnderlay
      have h_mo_kinds := (hn 41 (by decide) (by decide) (by decide) (by decide) (by decide) (by decide) (by decide) (by decide) (by decide)).trans h_mo_kinds
      have h_mo_brokenAt := (hn 42 (by decide) (by decide) (by decide) (by decide) (by decide) (by decide) (by decide) (by decide) (by decide)).trans h_mo_brokenAt
      have h_mo_sewn := (hn 43 (by decide) (by decide) (by decide) (by decide) (by decide) (by decide) (by decide) (by decide) (by decide)).trans h_mo_sewn
      have hbg : ∀ i : Nat, i ≠ 19 → i ≠ 31 → i ≠ 32 → i ≠ 33 → i ≠ 34 → i ≠ 35 → i ≠ 36 → i ≠ 37 → i ≠ 38 → i ≠ 41 → i ≠ 42 → i ≠ 43 → σ38 i = σ0 i := fun i a0 a1 a2 a3 a4 a5 a6 a7 a8 a9 a10 a11 => (hn i a0 a1 a2 a3 a4 a5 a6 a7 a8).trans (hbg i a0 a1 a2 a3 a4 a5 a6 a7 a8 a9 a10 a11)
      refine lv_aload_n hx hb dX7_start_36 rfl (lv_at hl 0 rfl) ?_
      refine lv_iload_n hx hb dX7_start_37 rfl (lv_at hl 1 rfl) ?_
      refine zput hx hb inlX7 tyX7 tyX7_ok nmX7 rfl 32 rfl zk_t4_145 rfl hts hown hK hH hk_mo h_mo rfl rfl rfl dX7_start_38 (fun σ39 Hσ39 lσ39 h_mo hn hH => ?_)
      have h_mo : σ39 19 = oC_mo ad mo_fields mo_bound u24 u26 u27 u28 u33 u34 mo_hasFile mo_format mo_length x1 mo_late mo_ran mo_program u16 u36 mo_stitches := h_mo
      have h_mo_colour := (hn 20 (by decide)).trans h_mo_colour
      have h_mo_layer := (hn 21 (by decide)).trans h_mo_layer
      have h_mo_isColumn := (hn 22 (by decide)).trans h_mo_isColumn
      have h_mo_corners := (hn 23 (by decide)).trans h_mo_corners
      have h_mo_cornerX := (hn 24 (by decide)).trans h_mo_cornerX
      have h_mo_cornerY := (hn 25 (by decide)).trans h_mo_cornerY
      have h_mo_density := (hn 26 (by decide)).trans h_mo_density
      have h_mo_longest := (hn 27 (by decide)).trans h_mo_longest
      have h_mo_shift := (hn 28 (by decide)).trans h_mo_shift
      have h_mo_pull := (hn 29 (by decide)).trans h_mo_pull
      have h_mo_hasUnderlay := (hn 30 (by decide)).trans h_mo_hasUnderlay
      have h_mo_pointX := (hn 31 (by decide)).trans h_mo_pointX
      have h_mo_pointY := (hn 32 (by decide)).trans h_mo_pointY
      have h_mo_crossing := (hn 33 (by decide)).trans h_mo_crossing
      have h_mo_kind := (hn 34 (by decide)).trans h_mo_kind
      have h_mo_byX := (hn 35 (by decide)).trans h_mo_byX
      have h_mo_byY := (hn 36 (by decide)).trans h_mo_byY
      have h_mo_fieldOf := (hn 37 (by decide)).trans h_mo_fieldOf
      have h_mo_isSewn := (hn 38 (by decide)).trans h_mo_isSewn
      have h_mo_kinds := (hn 41 (by decide)).trans h_mo_kinds
      have h_mo_brokenAt := (hn 42 (by decide)).trans h_mo_brokenAt
      have h_mo_sewn := (hn 43 (by decide)).trans h_mo_sewn
      have hbg : ∀ i : Nat, i ≠ 19 → i ≠ 31 → i ≠ 32 → i ≠ 33 → i ≠ 34 → i ≠ 35 → i ≠ 36 → i ≠ 37 → i ≠ 38 → i ≠ 41 → i ≠ 42 → i ≠ 43 → σ39 i = σ0 i := fun i a0 a1 a2 a3 a4 a5 a6 a7 a8 a9 a10 a11 => (hn i a0).trans (hbg i a0 a1 a2 a3 a4 a5 a6 a7 a8 a9 a10 a11)
      refine lv_aload_n hx hb dX7_start_41 rfl (lv_at hl 0 rfl) ?_
      refine lv_iload_n hx hb dX7_start_42 rfl (lv_at hl 2 rfl) ?_
      refine zput hx hb inlX7 tyX7 tyX7_ok nmX7 rfl 33 rfl zk_t4_146 rfl hts hown hK hH hk_mo h_mo rfl rfl rfl dX7_start_43 (fun σ40 Hσ40 lσ40 h_mo hn hH => ?_)
      have h_mo : σ40 19 = oC_mo ad mo_fields mo_bound u24 u26 u27 u28 u33 u34 mo_hasFile mo_format mo_length x1 x2 mo_ran mo_program u16 u36 mo_stitches := h_mo
      have h_mo_colour := (hn 20 (by decide)).trans h_mo_colour
      have h_mo_layer := (hn 21 (by decide)).trans h_mo_layer
      have h_mo_isColumn := (hn 22 (by decide)).trans h_mo_isColumn
      have h_mo_corners := (hn 23 (by decide)).trans h_mo_corners
      have h_mo_cornerX := (hn 24 (by decide)).trans h_mo_cornerX
      have h_mo_cornerY := (hn 25 (by decide)).trans h_mo_cornerY
      have h_mo_density := (hn 26 (by decide)).trans h_mo_density
      have h_mo_longest := (hn 27 (by decide)).trans h_mo_longest
      have h_mo_shift := (hn 28 (by decide)).trans h_mo_shift
      have h_mo_pull := (hn 29 (by decide)).trans h_mo_pull
      have h_mo_hasUnderlay := (hn 30 (by decide)).trans h_mo_hasUnderlay
      have h_mo_pointX := (hn 31 (by decide)).trans h_mo_pointX
      have h_mo_pointY := (hn 32 (by decide)).trans h_mo_pointY
      have h_mo_crossing := (hn 33 (by decide)).trans h_mo_crossing
      have h_mo_kind := (hn 34 (by decide)).trans h_mo_kind
      have h_mo_byX := (hn 35 (by decide)).trans h_mo_byX
      have h_mo_byY := (hn 36 (by decide)).trans h_mo_byY
      have h_mo_fieldOf := (hn 37 (by decide)).trans h_mo_fieldOf
      have h_mo_isSewn := (hn 38 (by decide)).trans h_mo_isSewn
      have h_mo_kinds := (hn 41 (by decide)).trans h_mo_kinds
      have h_mo_brokenAt := (hn 42 (by decide)).trans h_mo_brokenAt
      have h_mo_sewn := (hn 43 (by decide)).trans h_mo_sewn
      have hbg : ∀ i : Nat, i ≠ 19 → i ≠ 31 → i ≠ 32 → i ≠ 33 → i ≠ 34 → i ≠ 35 → i ≠ 36 → i ≠ 37 → i ≠ 38 → i ≠ 41 → i ≠ 42 → i ≠ 43 → σ40 i = σ0 i := fun i a0 a1 a2 a3 a4 a5 a6 a7 a8 a9 a10 a11 => (hn i a0).trans (hbg i a0 a1 a2 a3 a4 a5 a6 a7 a8 a9 a10 a11)
      refine lv_aload_n hx hb dX7_start_46 rfl (lv_at hl 0 rfl) ?_
      refine lv_iconst (v := zI 0) hx hb dX7_start_47 (by decide +kernel) ?_
      refine zput hx hb inlX7 tyX7 tyX7_ok nmX7 rfl 34 rfl zk_t4_147 rfl hts hown hK hH hk_mo h_mo rfl rfl rfl dX7_start_48 (fun σ41 Hσ41 lσ41 h_mo hn hH => ?_)
      have h_mo : σ41 19 = oC_mo ad mo_fields mo_bound u24 u26 u27 u28 u33 u34 mo_hasFile mo_format mo_length x1 x2 0 mo_program u16 u36 mo_stitches := h_mo
      have h_mo_colour := (hn 20 (by decide)).trans h_mo_colour
      have h_mo_layer := (hn 21 (by decide)).trans h_mo_layer
      have h_mo_isColumn := (hn 22 (by decide)).trans h_mo_isColumn
      have h_mo_corners := (hn 23 (by decide)).trans h_mo_corners
      have h_mo_cornerX := (hn 24 (by decide)).trans h_mo_cornerX
      have h_mo_cornerY := (hn 25 (by decide)).trans h_mo_cornerY
      have h_mo_density := (hn 26 (by decide)).trans h_mo_density
      have h_mo_longest := (hn 27 (by decide)).trans h_mo_longest
      have h_mo_shift := (hn 28 (by decide)).trans h_mo_shift
      have h_mo_pull := (hn 29 (by decide)).trans h_mo_pull
      have h_mo_hasUnderlay := (hn 30 (by decide)).trans h_mo_hasUnderlay
      have h_mo_pointX := (hn 31 (by decide)).trans h_mo_pointX
      have h_mo_pointY := (hn 32 (by decide)).trans h_mo_pointY
      have h_mo_crossing := (hn 33 (by decide)).trans h_mo_crossing
      have h_mo_kind := (hn 34 (by decide)).trans h_mo_kind
      have h_mo_byX := (hn 35 (by decide)).trans h_mo_byX
      have h_mo_byY := (hn 36 (by decide)).trans h_mo_byY
      have h_mo_fieldOf := (hn 37 (by decide)).trans h_mo_fieldOf
      have h_mo_isSewn := (hn 38 (by decide)).trans h_mo_isSewn
      have h_mo_kinds := (hn 41 (by decide)).trans h_mo_kinds
      have h_mo_brokenAt := (hn 42 (by decide)).trans h_mo_brokenAt
      have h_mo_sewn := (hn 43 (by decide)).trans h_mo_sewn
      have hbg : ∀ i : Nat, i ≠ 19 → i ≠ 31 → i ≠ 32 → i ≠ 33 → i ≠ 34 → i ≠ 35 → i ≠ 36 → i ≠ 37 → i ≠ 38 → i ≠ 41 → i ≠ 42 → i ≠ 43 → σ41 i = σ0 i := fun i a0 a1 a2 a3 a4 a5 a6 a7 a8 a9 a10 a11 => (hn i a0).trans (hbg i a0 a1 a2 a3 a4 a5 a6 a7 a8 a9 a10 a11)
      refine lv_aload_n hx hb dX7_start_51 rfl (lv_at hl 0 rfl) ?_
      refine lv_aload_n hx hb dX7_start_52 rfl (lv_at hl 0 rfl) ?_
      refine zget hx hb inlX7 rfl 19 rfl zk_t4_132 hts hown hK hH hk_mo h_mo rfl dX7_start_53 ?_
      refine zput hx hb inlX7 tyX7 tyX7_ok nmX7 rfl 35 rfl zk_t4_148 rfl hts hown hK hH hk_mo h_mo rfl rfl rfl dX7_start_56 (fun σ42 Hσ42 lσ42 h_mo hn hH => ?_)
      have h_mo : σ42 19 = oC_mo ad mo_fields mo_bound u24 u26 u27 u28 u33 u34 mo_hasFile mo_format mo_length x1 x2 0 u28 u16 u36 mo_stitches := h_mo
      have h_mo_colour := (hn 20 (by decide)).trans h_mo_colour
      have h_mo_layer := (hn 21 (by decide)).trans h_mo_layer
      have h_mo_isColumn := (hn 22 (by decide)).trans h_mo_isColumn
      have h_mo_corners := (hn 23 (by decide)).trans h_mo_corners
      have h_mo_cornerX := (hn 24 (by decide)).trans h_mo_cornerX
      have h_mo_cornerY := (hn 25 (by decide)).trans h_mo_cornerY
      have h_mo_density := (hn 26 (by decide)).trans h_mo_density
      have h_mo_longest := (hn 27 (by decide)).trans h_mo_longest
      have h_mo_shift := (hn 28 (by decide)).trans h_mo_shift
      have h_mo_pull := (hn 29 (by decide)).trans h_mo_pull
      have h_mo_hasUnderlay := (hn 30 (by decide)).trans h_mo_hasUnderlay
      have h_mo_pointX := (hn 31 (by decide)).trans h_mo_pointX
      have h_mo_pointY := (hn 32 (by decide)).trans h_mo_pointY
      have h_mo_crossing := (hn 33 (by decide)).trans h_mo_crossing
      have h_mo_kind := (hn 34 (by decide)).trans h_mo_kind
      have h_mo_byX := (hn 35 (by decide)).trans h_mo_byX
      have h_mo_byY := (hn 36 (by decide)).trans h_mo_byY
      have h_mo_fieldOf := (hn 37 (by decide)).trans h_mo_fieldOf
      have h_mo_isSewn := (hn 38 (by decide)).trans h_mo_isSewn
      have h_mo_kinds := (hn 41 (by decide)).trans h_mo_kinds
      have h_mo_brokenAt := (hn 42 (by decide)).trans h_mo_brokenAt
      have h_mo_sewn := (hn 43 (by decide)).trans h_mo_sewn
      have hbg : ∀ i : Nat, i ≠ 19 → i ≠ 31 → i ≠ 32 → i ≠ 33 → i ≠ 34 → i ≠ 35 → i ≠ 36 → i ≠ 37 → i ≠ 38 → i ≠ 41 → i ≠ 42 → i ≠ 43 → σ42 i = σ0 i := fun i a0 a1 a2 a3 a4 a5 a6 a7 a8 a9 a10 a11 => (hn i a0).trans (hbg i a0 a1 a2 a3 a4 a5 a6 a7 a8 a9 a10 a11)
      refine lv_iconst (v := zI 0) hx hb dX7_start_59 (by decide +kernel) ?_
      refine lv_istore_n (lv' := [(3, .int (zI 0)), (0, .ref (ad 19)), (1, .int (zI x1)), (2, .int (zI x2))]) hx hb dX7_start_60 rfl hl (by decide) rfl (fun ls hl => ?_)
      obtain ⟨w44, w45, k43, hf⟩ := zb2_some hf
      refine L61 a22 a23 u24 a25 u26 u27 u28 a29 a30 a31 a32 u33 u34 a35 x1 x2 0 u28 mo_brokenAt mo_sewn u16 u36 zFU 0 mo_kinds w44 w45 k43 _ _ _ hH h_mo h_mo_colour h_mo_layer h_mo_isColumn h_mo_corners h_mo_cornerX h_mo_cornerY h_mo_density h_mo_longest h_mo_shift h_mo_pull h_mo_hasUnderlay h_mo_pointX h_mo_pointY h_mo_crossing h_mo_kind h_mo_byX h_mo_byY h_mo_fieldOf h_mo_isSewn h_mo_kinds h_mo_brokenAt h_mo_sewn hbg _ (lv_sub hl [1, 0] rfl) (fun σ46 Hσ46 lσ46 hH h_mo h_mo_colour h_mo_layer h_mo_isColumn h_mo_corners h_mo_cornerX h_mo_cornerY h_mo_density h_mo_longest h_mo_shift h_mo_pull h_mo_hasUnderlay h_mo_pointX h_mo_pointY h_mo_crossing h_mo_kind h_mo_byX h_mo_byY h_mo_fieldOf h_mo_isSewn h_mo_kinds h_mo_brokenAt h_mo_sewn hbg ls hl => ?_)
      refine lv_iconst (v := zI 0) hx hb dX7_start_87 (by decide +kernel) ?_
      refine lv_istore_n (lv' := [(3, .int (zI 0)), (0, .ref (ad 19))]) hx hb dX7_start_88 rfl hl (by decide) rfl (fun ls hl => ?_)
      obtain ⟨w48, w49, w50, k47, hf⟩ := zb3_some hf
      refine L89 a22 a23 u24 a25 u26 u27 u28 a29 a30 a31 a32 u33 u34 a35 x1 x2 0 u28 w45 u16 u36 zFU 0 mo_brokenAt mo_sewn w48 w49 w50 k47 _ _ _ hH h_mo h_mo_colour h_mo_layer h_mo_isColumn h_mo_corners h_mo_cornerX h_mo_cornerY h_mo_density h_mo_longest h_mo_shift h_mo_pull h_mo_hasUnderlay h_mo_pointX h_mo_pointY h_mo_crossing h_mo_kind h_mo_byX h_mo_byY h_mo_fieldOf h_mo_isSewn h_mo_kinds h_mo_brokenAt h_mo_sewn hbg _ (lv_sub hl [1, 0] rfl) (fun σ51 Hσ51 lσ51 hH h_mo h_mo_colour h_mo_layer h_mo_isColumn h_mo_corners h_mo_cornerX h_mo_cornerY h_mo_density h_mo_longest h_mo_shift h_mo_pull h_mo_hasUnderlay h_mo_pointX h_mo_pointY h_mo_crossing h_mo_kind h_mo_byX h_mo_byY h_mo_fieldOf h_mo_isSewn h_mo_kinds h_mo_brokenAt h_mo_sewn hbg ls hl => ?_)
      cases hf
      exact zretv hx hb hr hlocks hQ hH ⟨h_mo, h_mo_pointX, h_mo_pointY, h_mo_crossing, h_mo_kind, h_mo_byX, h_mo_byY, h_mo_fieldOf, h_mo_isSewn, h_mo_kinds, h_mo_brokenAt, h_mo_sewn, hbg⟩ dX7_start_114
    · replace hf := (if_pos c21).symm.trans hf
      cases hf
      exact zretv hx hb hr hlocks hQ hH ⟨h_mo, h_mo_pointX, h_mo_pointY, h_mo_crossing, h_mo_kind, h_mo_byX, h_mo_byY, h_mo_fieldOf, h_mo_isSewn, h_mo_kinds, h_mo_brokenAt, h_mo_sewn, hbg⟩ dX7_start_31
  have J24 : ∀ (mo_pointX : Int → Int) (mo_pointY : Int → Int) (mo_points : Int) (mo_crossing : Int → Int) (mo_crossings : Int) (mo_isKnown : Int) (mo_commands : Int) (mo_kind : Int → Int) (mo_byX : Int → Int) (mo_byY : Int → Int) (mo_fieldOf : Int → Int) (mo_needleX : Int) (mo_needleY : Int) (mo_isSewn : Int → Int) (mo_heads : Int) (mo_late : Int) (mo_ran : Int) (mo_program : Int) (mo_kinds : Int → Int) (mo_brokenAt : Int → Int) (mo_sewn : Int → Int) (mo_thrown : Int) (mo_rowY : Int) (x1 : Int) (x2 : Int) (σ : Nat → va_E) (H : Heap) (locs : List Loc) (hH : zH D ad N (zFr ad N s.heap.size) s.heap σ H locs) (h_mo : σ 19 = oC_mo ad mo_fields mo_bound mo_points mo_crossings mo_isKnown mo_commands mo_needleX mo_needleY mo_hasFile mo_format mo_length mo_heads mo_late mo_ran mo_program mo_thrown mo_rowY mo_stitches) (h_mo_colour : σ 20 = .inl (cI, 8, .inl (zA mo_colour))) (h_mo_layer : σ 21 = .inl (cI, 8, .inl (zA mo_layer))) (h_mo_isColumn : σ 22 = .inl (cZ, 8, .inl (zA mo_isColumn))) (h_mo_corners : σ 23 = .inl (cI, 8, .inl (zA mo_corners))) (h_mo_cornerX : σ 24 = .inl (cI, 64, .inl (zA mo_cornerX))) (h_mo_cornerY : σ 25 = .inl (cI, 64, .inl (zA mo_cornerY))) (h_mo_density : σ 26 = .inl (cI, 8, .inl (zA mo_density))) (h_mo_longest : σ 27 = .inl (cI, 8, .inl (zA mo_longest))) (h_mo_shift : σ 28 = .inl (cI, 8, .inl (zA mo_shift))) (h_mo_pull : σ 29 = .inl (cI, 8, .inl (zA mo_pull))) (h_mo_hasUnderlay : σ 30 = .inl (cZ, 8, .inl (zA mo_hasUnderlay))) (h_mo_pointX : σ 31 = .inl (cI, 4096, .inl (zA mo_pointX))) (h_mo_pointY : σ 32 = .inl (cI, 4096, .inl (zA mo_pointY))) (h_mo_crossing : σ 33 = .inl (cI, 8, .inl (zA mo_crossing))) (h_mo_kind : σ 34 = .inl (cI, 20000, .inl (zA mo_kind))) (h_mo_byX : σ 35 = .inl (cI, 20000, .inl (zA mo_byX))) (h_mo_byY : σ 36 = .inl (cI, 20000, .inl (zA mo_byY))) (h_mo_fieldOf : σ 37 = .inl (cI, 20000, .inl (zA mo_fieldOf))) (h_mo_isSewn : σ 38 = .inl (cZ, 8, .inl (zA mo_isSewn))) (h_mo_kinds : σ 41 = .inl (cI, 20000, .inl (zA mo_kinds))) (h_mo_brokenAt : σ 42 = .inl (cI, 4, .inl (zA mo_brokenAt))) (h_mo_sewn : σ 43 = .inl (cI, 4, .inl (zA mo_sewn))) (hbg : ∀ i : Nat, i ≠ 19 → i ≠ 31 → i ≠ 32 → i ≠ 33 → i ≠ 34 → i ≠ 35 → i ≠ 36 → i ≠ 37 → i ≠ 38 → i ≠ 41 → i ≠ 42 → i ≠ 43 → σ i = σ0 i) (ls : Array Slot) (hl : lv_has ls 4 [(0, .ref (ad 19)), (1, .int (zI x1)), (2, .int (zI x2))]), f_X7_start_24 mo_fields mo_colour mo_layer mo_isColumn mo_corners mo_cornerX mo_cornerY mo_density mo_longest mo_shift mo_pull mo_hasUnderlay mo_bound mo_pointX mo_pointY mo_points mo_crossing mo_crossings mo_isKnown mo_commands mo_kind mo_byX mo_byY mo_fieldOf mo_needleX mo_needleY mo_isSewn mo_heads mo_late mo_ran mo_program mo_kinds mo_brokenAt mo_sewn mo_thrown mo_rowY x1 x2 = some (R_mo_pointX, R_mo_pointY, R_mo_points, R_mo_crossing, R_mo_crossings, R_mo_isKnown, R_mo_commands, R_mo_kind, R_mo_byX, R_mo_byY, R_mo_fieldOf, R_mo_needleX, R_mo_needleY, R_mo_isSewn, R_mo_heads, R_mo_late, R_mo_ran, R_mo_program, R_mo_kinds, R_mo_brokenAt, R_mo_sewn, R_mo_thrown, R_mo_rowY) → W p l e rmX7_start s m args below meth c H locs 0 0 Q (F0 m 24 ls [.ref (ad 19)]) := by
    intro mo_pointX mo_pointY mo_points mo_crossing mo_crossings mo_isKnown mo_commands mo_kind mo_byX mo_byY mo_fieldOf mo_needleX mo_needleY mo_isSewn mo_heads mo_late mo_ran mo_program mo_kinds mo_brokenAt mo_sewn mo_thrown mo_rowY x1 x2 σ H locs hH h_mo h_mo_colour h_mo_layer h_mo_isColumn h_mo_corners h_mo_cornerX h_mo_cornerY h_mo_density h_mo_longest h_mo_shift h_mo_pull h_mo_hasUnderlay h_mo_pointX h_mo_pointY h_mo_crossing h_mo_kind h_mo_byX h_mo_byY h_mo_fieldOf h_mo_isSewn h_mo_kinds h_mo_brokenAt h_mo_sewn hbg ls hl hf
    unfold f_X7_start_24 at hf
    refine lv_iconst (v := zI 0) hx hb dX7_start_24 (by decide +kernel) ?_
    exact J25 mo_pointX mo_pointY mo_points mo_crossing mo_crossings mo_isKnown mo_commands mo_kind mo_byX mo_byY mo_fieldOf mo_needleX mo_needleY mo_isSewn mo_heads mo_late mo_ran mo_program mo_kinds mo_brokenAt mo_sewn mo_thrown mo_rowY x1 x2 0 _ _ _ hH h_mo h_mo_colour h_mo_layer h_mo_isColumn h_mo_corners h_mo_cornerX h_mo_cornerY h_mo_density h_mo_longest h_mo_shift h_mo_pull h_mo_hasUnderlay h_mo_pointX h_mo_pointY h_mo_crossing h_mo_kind h_mo_byX h_mo_byY h_mo_fieldOf h_mo_isSewn h_mo_kinds h_mo_brokenAt h_mo_sewn hbg _ (lv_sub hl [0, 1, 2] rfl) hf
  unfold f_X7_start at hf
  refine lv_aload_n hx hb dX7_start_0 rfl (lv_at hl 0 rfl) ?_
  refine lv_iload_n hx hb dX7_start_1 rfl (lv_at hl 1 rfl) ?_
  refine lv_iconst (v := zI 1) hx hb dX7_start_2 (by decide +kernel) ?_
  refine lv_iconst (v := zI 4) hx hb dX7_start_3 (by decide +kernel) ?_
  obtain ⟨r52, k53, hf⟩ := zb1_some hf
  refine zcSi (As := [.int (zI p1), .int (zI 1), .int (zI 4)]) (rest := [.ref (ad 19)]) hx hb hml hown hts hl.1 hK hH hA (c_X7_in hI hN   k53) zk_t5_8 zk_t5_9 zk_t1_6 zk_t5_10 hd_X7_in rfl ⟨rfl, rfl, Nat.le_of_ble_eq_true rfl, Nat.le_of_ble_eq_true rfl⟩ ⟨Nat.zero_le _, Nat.zero_le _⟩ rfl (Nat.le_of_ble_eq_true rfl) dX7_start_4 (fun q55 σ54 Hσ54 lσ54 hp hH => ?_)
  obtain ⟨hr1, hs1⟩ := hp; subst hr1; rw [hs1] at hH
  obtain ⟨k56, hf⟩ := zck_some hf
  refine lz_if_eq (tgt := 24) hx hb k56 dX7_start_7 (by decide) (fun c57 => ?_) (fun c57 => ?_)
  · replace hf := (if_pos c57).symm.trans hf
    exact J24 mo_pointX mo_pointY mo_points mo_crossing mo_crossings mo_isKnown mo_commands mo_kind mo_byX mo_byY mo_fieldOf mo_needleX mo_needleY mo_isSewn mo_heads mo_late mo_ran mo_program mo_kinds mo_brokenAt mo_sewn mo_thrown mo_rowY p1 p2 _ _ _ hH h_mo h_mo_colour h_mo_layer h_mo_isColumn h_mo_corners h_mo_cornerX h_mo_cornerY h_mo_density h_mo_longest h_mo_shift h_mo_pull h_mo_hasUnderlay h_mo_pointX h_mo_pointY h_mo_crossing h_mo_kind h_mo_byX h_mo_byY h_mo_fieldOf h_mo_isSewn h_mo_kinds h_mo_brokenAt h_mo_sewn hbg _ (lv_sub hl [0, 1, 2] rfl) hf
  · replace hf := (if_neg c57).symm.trans hf
    refine lv_iload_n hx hb dX7_start_10 rfl (lv_at hl 2 rfl) ?_
    refine lv_iconst (v := zI 0) hx hb dX7_start_11 (by decide +kernel) ?_
    refine lv_bipush (v := zI 20) hx hb dX7_start_12 (by decide +kernel) ?_
    obtain ⟨r58, k59, hf⟩ := zb1_some hf
    refine zcSi (As := [.int (zI p2), .int (zI 0), .int (zI 20)]) (rest := [.ref (ad 19)]) hx hb hml hown hts hl.1 hK hH hA (c_X7_in hI hN   k59) zk_t5_8 zk_t5_9 zk_t1_6 zk_t5_10 hd_X7_in rfl ⟨rfl, rfl, Nat.le_of_ble_eq_true rfl, Nat.le_of_ble_eq_true rfl⟩ ⟨Nat.zero_le _, Nat.zero_le _⟩ rfl (Nat.le_of_ble_eq_true rfl) dX7_start_14 (fun q61 σ60 Hσ60 lσ60 hp hH => ?_)
    obtain ⟨hr1, hs1⟩ := hp; subst hr1; rw [hs1] at hH
    obtain ⟨k62, hf⟩ := zck_some hf
    refine lz_if_eq (tgt := 24) hx hb k62 dX7_start_17 (by decide) (fun c63 => ?_) (fun c63 => ?_)
    · replace hf := (if_pos c63).symm.trans hf
      exact J24 mo_pointX mo_pointY mo_points mo_crossing mo_crossings mo_isKnown mo_commands mo_kind mo_byX mo_byY mo_fieldOf mo_needleX mo_needleY mo_isSewn mo_heads mo_late mo_ran mo_program mo_kinds mo_brokenAt mo_sewn mo_thrown mo_rowY p1 p2 _ _ _ hH h_mo h_mo_colour h_mo_layer h_mo_isColumn h_mo_corners h_mo_cornerX h_mo_cornerY h_mo_density h_mo_longest h_mo_shift h_mo_pull h_mo_hasUnderlay h_mo_pointX h_mo_pointY h_mo_crossing h_mo_kind h_mo_byX h_mo_byY h_mo_fieldOf h_mo_isSewn h_mo_kinds h_mo_brokenAt h_mo_sewn hbg _ (lv_sub hl [0, 1, 2] rfl) hf
    · replace hf := (if_neg c63).symm.trans hf
      refine lv_iconst (v := zI 1) hx hb dX7_start_20 (by decide +kernel) ?_
      refine lv_goto (tgt := 25) hx hb dX7_start_21 (by decide) ?_
      exact J25 mo_pointX mo_pointY mo_points mo_crossing mo_crossings mo_isKnown mo_commands mo_kind mo_byX mo_byY mo_fieldOf mo_needleX mo_needleY mo_isSewn mo_heads mo_late mo_ran mo_program mo_kinds mo_brokenAt mo_sewn mo_thrown mo_rowY p1 p2 1 _ _ _ hH h_mo h_mo_colour h_mo_layer h_mo_isColumn h_mo_corners h_mo_cornerX h_mo_cornerY h_mo_density h_mo_longest h_mo_shift h_mo_pull h_mo_hasUnderlay h_mo_pointX h_mo_pointY h_mo_crossing h_mo_kind h_mo_byX h_mo_byY h_mo_fieldOf h_mo_isSewn h_mo_kinds h_mo_brokenAt h_mo_sewn hbg _ (lv_sub hl [0, 1, 2] rfl) hf
abbrev rmX7_isHead : Room := { frames := 1, cells := 0, slots := 0, locals := 22 }
theorem hd_X7_isHead : yX7_isHead.cls = RX7 ∧ yX7_isHead.cls ≠ "java/lang/invoke/MethodHandle" ∧ yX7_isHead.cls ≠ "java/lang/invoke/VarHandle" ∧ (parseMethodDescriptor yX7_isHead.desc).map (fun d => d.parameters.length) = some 1 := by decide +kernel
set_option maxHeartbeats 4000000 in
set_option maxRecDepth 100000 in
theorem c_X7_isHead {l : Launch} {D : va_G} {cI cZ cF cL cD : ClassId} {ad : Nat → Nat} {N : Nat} (hI : ∀ i j, i < N → j < N → ad i = ad j → i = j) (hN : 46 ≤ N) {σ0 : Nat → va_E} {sz : Nat} {mo_fields : Int} {mo_bound : Int} {mo_points : Int} {mo_crossings : Int} {mo_isKnown : Int} {mo_commands : Int} {mo_needleX : Int} {mo_needleY : Int} {mo_hasFile : Int} {mo_format : Int} {mo_length : Int} {mo_heads : Int} {mo_late : Int} {mo_ran : Int} {mo_program : Int} {mo_thrown : Int} {mo_rowY : Int} {mo_stitches : Int} {p1 : Int} {R0 : Int} (h_mo : σ0 19 = oC_mo ad mo_fields mo_bound mo_points mo_crossings mo_isKnown mo_commands mo_needleX mo_needleY mo_hasFile mo_format mo_length mo_heads mo_late mo_ran mo_program mo_thrown mo_rowY mo_stitches) (hf : f_X7_isHead mo_heads p1 = some R0) :
    Met l yX7_isHead (Cond.code yX7_isHead cX7_isHead 2 (some .boolean) :: wsL_law) rmX7_isHead (zPre D ad N (zT cI cZ cF cL cD) σ0 sz [.ref (ad 19), .int (zI p1)]) (zQi D ad N sz (fun r σ' => r = zI R0 ∧ σ' = σ0)) 0 0 (zFr ad N sz) := by
  refine zMet hI (plainFor_of_name (by decide)) (Nat.le_of_ble_eq_true rfl) ⟨rfl, rfl⟩ ?_
  intro p e s m args below meth c Q hx hb hr hlocks hml hown hts hK hsz hQ hH hA ls hl
  subst hsz
  have hk_mo : 19 < N := by omega
  have hl : lv_has ls 2 [(0, .ref (ad 19)), (1, .int (zI p1))] := hl
  have hbg : σ0 = σ0 := rfl
  unfold f_X7_isHead at hf
  refine lv_iload_n hx hb dX7_isHead_0 rfl (lv_at hl 1 rfl) ?_
  refine lv_iconst (v := zI 0) hx hb dX7_isHead_1 (by decide +kernel) ?_
  refine lv_aload_n hx hb dX7_isHead_2 rfl (lv_at hl 0 rfl) ?_
  refine zget hx hb inlX7 rfl 32 rfl zk_t4_145 hts hown hK hH hk_mo h_mo rfl dX7_isHead_3 ?_
  refine lv_iconst (v := zI 1) hx hb dX7_isHead_6 (by decide +kernel) ?_
  refine lz_isub hx hb dX7_isHead_7 ?_
  obtain ⟨r1, k2, hf⟩ := zb1_some hf
  refine zcSi (As := [.int (zI p1), .int (zI 0), .int (zI (mo_heads - 1))]) (rest := []) hx hb hml hown hts hl.1 hK hH hA (c_X7_in hI hN   k2) zk_t5_8 zk_t5_9 zk_t1_6 zk_t5_10 hd_X7_in rfl ⟨rfl, rfl, Nat.le_of_ble_eq_true rfl, Nat.le_of_ble_eq_true rfl⟩ ⟨Nat.zero_le _, Nat.zero_le _⟩ rfl (Nat.le_of_ble_eq_true rfl) dX7_isHead_8 (fun q4 σ3 Hσ3 lσ3 hp hH => ?_)
  obtain ⟨hr1, hs1⟩ := hp; subst hr1; rw [hs1] at hH
  obtain ⟨k5, hf⟩ := zck_some hf
  cases hf
  exact zretz hx hb hr hlocks hQ hH ⟨rfl, hbg⟩ (z_nar _ k5) dX7_isHead_11
abbrev rmX7_isSeen : Room := { frames := 0, cells := 0, slots := 0, locals := 0 }
theorem hd_X7_isSeen : yX7_isSeen.cls = RX7 ∧ yX7_isSeen.cls ≠ "java/lang/invoke/MethodHandle" ∧ yX7_isSeen.cls ≠ "java/lang/invoke/VarHandle" ∧ (parseMethodDescriptor yX7_isSeen.desc).map (fun d => d.parameters.length) = some 1 := by decide +kernel
set_option maxHeartbeats 4000000 in
set_option maxRecDepth 100000 in
theorem c_X7_isSeen {l : Launch} {D : va_G} {cI cZ cF cL cD : ClassId} {ad : Nat → Nat} {N : Nat} (hI : ∀ i j, i < N → j < N → ad i = ad j → i = j) (hN : 46 ≤ N) {σ0 : Nat → va_E} {sz : Nat} {mo_fields : Int} {mo_bound : Int} {mo_points : Int} {mo_crossings : Int} {mo_isKnown : Int} {mo_commands : Int} {mo_needleX : Int} {mo_needleY : Int} {mo_hasFile : Int} {mo_format : Int} {mo_length : Int} {mo_heads : Int} {mo_late : Int} {mo_ran : Int} {mo_program : Int} {mo_brokenAt : Int → Int} {mo_thrown : Int} {mo_rowY : Int} {mo_stitches : Int} {p1 : Int} {R0 : Int} (h_mo : σ0 19 = oC_mo ad mo_fields mo_bound mo_points mo_crossings mo_isKnown mo_commands mo_needleX mo_needleY mo_hasFile mo_format mo_length mo_heads mo_late mo_ran mo_program mo_thrown mo_rowY mo_stitches) (h_mo_brokenAt : σ0 42 = .inl (cI, 4, .inl (zA mo_brokenAt))) (hf : f_X7_isSeen mo_late mo_ran mo_program mo_brokenAt p1 = some R0) :
    Met l yX7_isSeen (Cond.code yX7_isSeen cX7_isSeen 2 (some .boolean) :: wsL_law) rmX7_isSeen (zPre D ad N (zT cI cZ cF cL cD) σ0 sz [.ref (ad 19), .int (zI p1)]) (zQi D ad N sz (fun r σ' => r = zI R0 ∧ σ' = σ0)) 0 0 (zFr ad N sz) := by
  refine zMet hI (plainFor_of_name (by decide)) (Nat.le_of_ble_eq_true rfl) ⟨rfl, rfl⟩ ?_
  intro p e s m args below meth c Q hx hb hr hlocks hml hown hts hK hsz hQ hH hA ls hl
  subst hsz
  have hk_mo : 19 < N := by omega
  have hk_mo_brokenAt : 42 < N := by omega
  have hl : lv_has ls 2 [(0, .ref (ad 19)), (1, .int (zI p1))] := hl
  have hbg : σ0 = σ0 := rfl
  have J39 : ∀  (σ : Nat → va_E) (H : Heap) (locs : List Loc) (hH : zH D ad N (zFr ad N s.heap.size) s.heap σ H locs) (h_mo : σ 19 = oC_mo ad mo_fields mo_bound mo_points mo_crossings mo_isKnown mo_commands mo_needleX mo_needleY mo_hasFile mo_format mo_length mo_heads mo_late mo_ran mo_program mo_thrown mo_rowY mo_stitches) (h_mo_brokenAt : σ 42 = .inl (cI, 4, .inl (zA mo_brokenAt))) (hbg : σ = σ0) (ls : Array Slot) (hl : lv_has ls 2 []), f_X7_isSeen_39 mo_late mo_ran mo_program mo_brokenAt = some R0 → W p l e rmX7_isSeen s m args below meth c H locs 0 0 Q (F0 m 39 ls []) := by
    intro  σ H locs hH h_mo h_mo_brokenAt hbg ls hl hf
    unfold f_X7_isSeen_39 at hf
    refine lv_iconst (v := zI 1) hx hb dX7_isSeen_39 (by decide +kernel) ?_
    refine lv_goto (tgt := 44) hx hb dX7_isSeen_40 (by decide) ?_
    cases hf
    exact zretz hx hb hr hlocks hQ hH ⟨rfl, hbg⟩ (z_nar _ (Or.inr rfl)) dX7_isSeen_44
  unfold f_X7_isSeen at hf
  refine lv_aload_n hx hb dX7_isSeen_0 rfl (lv_at hl 0 rfl) ?_
  refine zget hx hb inlX7 rfl 37 rfl zk_t4_150 hts hown hK hH hk_mo h_mo rfl dX7_isSeen_1 ?_
  refine lv_iload_n hx hb dX7_isSeen_4 rfl (lv_at hl 1 rfl) ?_
  obtain ⟨k1, hf⟩ := zck_some hf
  refine ziald hx hb hK hH hk_mo_brokenAt 0 h_mo_brokenAt rfl k1 rfl dX7_isSeen_5 ?_
  refine lv_iconst (v := zI (-1)) hx hb dX7_isSeen_6 (by decide +kernel) ?_
  obtain ⟨k2, hf⟩ := zck_some hf
  refine lz_icmp_eq (tgt := 43) hx hb ⟨k2, by decide⟩ dX7_isSeen_7 (by decide) (fun c3 => ?_) (fun c3 => ?_)
  · replace hf := (if_pos c3).symm.trans hf
    refine lv_iconst (v := zI 0) hx hb dX7_isSeen_43 (by decide +kernel) ?_
    cases hf
    exact zretz hx hb hr hlocks hQ hH ⟨rfl, hbg⟩ (z_nar _ (Or.inl rfl)) dX7_isSeen_44
  · replace hf := (if_neg c3).symm.trans hf
    refine lv_aload_n hx hb dX7_isSeen_10 rfl (lv_at hl 0 rfl) ?_
    refine zget hx hb inlX7 rfl 34 rfl zk_t4_147 hts hown hK hH hk_mo h_mo rfl dX7_isSeen_11 ?_
    refine lv_aload_n hx hb dX7_isSeen_14 rfl (lv_at hl 0 rfl) ?_
    refine zget hx hb inlX7 rfl 37 rfl zk_t4_150 hts hown hK hH hk_mo h_mo rfl dX7_isSeen_15 ?_
    refine lv_iload_n hx hb dX7_isSeen_18 rfl (lv_at hl 1 rfl) ?_
    obtain ⟨k4, hf⟩ := zck_some hf
    refine ziald hx hb hK hH hk_mo_brokenAt 0 h_mo_brokenAt rfl k4 rfl dX7_isSeen_19 ?_
    refine lv_aload_n hx hb dX7_isSeen_20 rfl (lv_at hl 0 rfl) ?_
    refine zget hx hb inlX7 rfl 33 rfl zk_t4_146 hts hown hK hH hk_mo h_mo rfl dX7_isSeen_21 ?_
    refine lz_iadd hx hb dX7_isSeen_24 ?_
    obtain ⟨k5, hf⟩ := zck_some hf
    refine lz_icmp_ge (tgt := 39) hx hb k5 dX7_isSeen_25 (by decide) (fun c6 => ?_) (fun c6 => ?_)
    · replace hf := (if_pos c6).symm.trans hf
      exact J39  _ _ _ hH h_mo h_mo_brokenAt hbg _ (lv_sub hl [] rfl) hf
    · replace hf := (if_neg c6).symm.trans hf
      refine lv_aload_n hx hb dX7_isSeen_28 rfl (lv_at hl 0 rfl) ?_
      refine zget hx hb inlX7 rfl 34 rfl zk_t4_147 hts hown hK hH hk_mo h_mo rfl dX7_isSeen_29 ?_
      refine lv_aload_n hx hb dX7_isSeen_32 rfl (lv_at hl 0 rfl) ?_
      refine zget hx hb inlX7 rfl 35 rfl zk_t4_148 hts hown hK hH hk_mo h_mo rfl dX7_isSeen_33 ?_
      obtain ⟨k7, hf⟩ := zck_some hf
      refine lz_icmp_ne (tgt := 43) hx hb k7 dX7_isSeen_36 (by decide) (fun c8 => ?_) (fun c8 => ?_)
      · replace hf := (if_neg c8).symm.trans hf
        refine lv_iconst (v := zI 0) hx hb dX7_isSeen_43 (by decide +kernel) ?_
        cases hf
        exact zretz hx hb hr hlocks hQ hH ⟨rfl, hbg⟩ (z_nar _ (Or.inl rfl)) dX7_isSeen_44
      · replace hf := (if_pos c8).symm.trans hf
        exact J39  _ _ _ hH h_mo h_mo_brokenAt hbg _ (lv_sub hl [] rfl) hf
abbrev rmX7_stands : Room := { frames := 1, cells := 0, slots := 0, locals := 21 }
theorem hd_X7_stands : yX7_stands.cls = RX7 ∧ yX7_stands.cls ≠ "java/lang/invoke/MethodHandle" ∧ yX7_stands.cls ≠ "java/lang/invoke/VarHandle" ∧ (parseMethodDescriptor yX7_stands.desc).map (fun d => d.parameters.length) = some 0 := by decide +kernel
set_option maxHeartbeats 4000000 in
set_option maxRecDepth 100000 in
theorem c_X7_stands {l : Launch} {D : va_G} {cI cZ cF cL cD : ClassId} {ad : Nat → Nat} {N : Nat} (hI : ∀ i j, i < N → j < N → ad i = ad j → i = j) (hN : 46 ≤ N) {σ0 : Nat → va_E} {sz : Nat} {mo_fields : Int} {mo_bound : Int} {mo_points : Int} {mo_crossings : Int} {mo_isKnown : Int} {mo_commands : Int} {mo_needleX : Int} {mo_needleY : Int} {mo_hasFile : Int} {mo_format : Int} {mo_length : Int} {mo_heads : Int} {mo_late : Int} {mo_ran : Int} {mo_program : Int} {mo_brokenAt : Int → Int} {mo_thrown : Int} {mo_rowY : Int} {mo_stitches : Int} {R0 : Int} (h_mo : σ0 19 = oC_mo ad mo_fields mo_bound mo_points mo_crossings mo_isKnown mo_commands mo_needleX mo_needleY mo_hasFile mo_format mo_length mo_heads mo_late mo_ran mo_program mo_thrown mo_rowY mo_stitches) (h_mo_brokenAt : σ0 42 = .inl (cI, 4, .inl (zA mo_brokenAt))) (hf : f_X7_stands mo_heads mo_late mo_ran mo_program mo_brokenAt = some R0) :
    Met l yX7_stands (Cond.code yX7_stands cX7_stands 3 (some .boolean) :: wsL_law) rmX7_stands (zPre D ad N (zT cI cZ cF cL cD) σ0 sz [.ref (ad 19)]) (zQi D ad N sz (fun r σ' => r = zI R0 ∧ σ' = σ0)) 0 0 (zFr ad N sz) := by
  refine zMet hI (plainFor_of_name (by decide)) (Nat.le_of_ble_eq_true rfl) ⟨rfl, rfl⟩ ?_
  intro p e s m args below meth c Q hx hb hr hlocks hml hown hts hK hsz hQ hH hA ls hl
  subst hsz
  have hk_mo : 19 < N := by omega
  have hk_mo_brokenAt : 42 < N := by omega
  have hl : lv_has ls 3 [(0, .ref (ad 19))] := hl
  have hbg : σ0 = σ0 := rfl
  have L4 : ∀   (n : Nat) (x1 : Int) (x2 : Int) (x1' : Int) (x2' : Int), zlp (fun z => f_X7_stands_L4 mo_heads mo_late mo_ran mo_program mo_brokenAt z.1 z.2) n (x1, x2) = some (x1', x2') → ∀ (σ : Nat → va_E) (H : Heap) (locs : List Loc) (hH : zH D ad N (zFr ad N s.heap.size) s.heap σ H locs) (h_mo : σ 19 = oC_mo ad mo_fields mo_bound mo_points mo_crossings mo_isKnown mo_commands mo_needleX mo_needleY mo_hasFile mo_format mo_length mo_heads mo_late mo_ran mo_program mo_thrown mo_rowY mo_stitches) (h_mo_brokenAt : σ 42 = .inl (cI, 4, .inl (zA mo_brokenAt))) (hbg : σ = σ0) (ls : Array Slot) (hl : lv_has ls 3 [(0, .ref (ad 19)), (1, .int (zI x1)), (2, .int (zI x2))]), (∀ (σ : Nat → va_E) (H : Heap) (locs : List Loc) (hH : zH D ad N (zFr ad N s.heap.size) s.heap σ H locs) (h_mo : σ 19 = oC_mo ad mo_fields mo_bound mo_points mo_crossings mo_isKnown mo_commands mo_needleX mo_needleY mo_hasFile mo_format mo_length mo_heads mo_late mo_ran mo_program mo_thrown mo_rowY mo_stitches) (h_mo_brokenAt : σ 42 = .inl (cI, 4, .inl (zA mo_brokenAt))) (hbg : σ = σ0) (ls : Array Slot) (hl : lv_has ls 3 [(1, .int (zI (x1')))]), W p l e rmX7_stands s m args below meth c H locs 0 0 Q (F0 m 36 ls [])) → W p l e rmX7_stands s m args below meth c H locs 0 0 Q (F0 m 4 ls []) := by
    intro  n
    induction n with
    | zero => intro x1 x2 x1' x2' hz; exact (zlp_0 hz).elim
    | succ n ih =>
      intro x1 x2 x1' x2' hz σ H locs hH h_mo h_mo_brokenAt hbg ls hl kx
      obtain ⟨nx, hf, hnx⟩ := zlp_some hz
      have hf : f_X7_stands_L4 mo_heads mo_late mo_ran mo_program mo_brokenAt x1 x2 = some nx := hf
      have JL4_24 : ∀ (x2 : Int) (σ : Nat → va_E) (H : Heap) (locs : List Loc) (hH : zH D ad N (zFr ad N s.heap.size) s.heap σ H locs) (h_mo : σ 19 = oC_mo ad mo_fields mo_bound mo_points mo_crossings mo_isKnown mo_commands mo_needleX mo_needleY mo_hasFile mo_format mo_length mo_heads mo_late mo_ran mo_program mo_thrown mo_rowY mo_stitches) (h_mo_brokenAt : σ 42 = .inl (cI, 4, .inl (zA mo_brokenAt))) (hbg : σ = σ0) (ls : Array Slot) (hl : lv_has ls 3 [(0, .ref (ad 19)), (2, .int (zI x2))]), f_X7_stands_L4_24 mo_heads mo_late mo_ran mo_program mo_brokenAt x2 = some nx → W p l e rmX7_stands s m args below meth c H locs 0 0 Q (F0 m 24 ls []) := by
        intro x2 σ H locs hH h_mo h_mo_brokenAt hbg ls hl hf
        unfold f_X7_stands_L4_24 at hf
        refine lv_iconst (v := zI 1) hx hb dX7_stands_24 (by decide +kernel) ?_
        refine lv_goto (tgt := 29) hx hb dX7_stands_25 (by decide) ?_
        refine lv_istore_n (lv' := [(1, .int (zI 1)), (0, .ref (ad 19)), (2, .int (zI x2))]) hx hb dX7_stands_29 rfl hl (by decide) rfl (fun ls hl => ?_)
        refine lz_iinc (lv' := [(2, .int (zI (x2 + 1))), (1, .int (zI 1)), (0, .ref (ad 19))]) hx hb dX7_stands_30 hl (j := 2) rfl (by decide) rfl (fun ls hl => ?_)
        refine lv_goto (tgt := 4) hx hb dX7_stands_33 (by decide) ?_
        cases hf
        exact ih 1 (x2 + 1) _ _ hnx _ _ _ hH h_mo h_mo_brokenAt hbg _ (lv_sub hl [2, 1, 0] rfl) kx
      unfold f_X7_stands_L4 at hf
      refine lv_iload_n hx hb dX7_stands_4 rfl (lv_at hl 2 rfl) ?_
      refine lv_aload_n hx hb dX7_stands_5 rfl (lv_at hl 0 rfl) ?_
      refine zget hx hb inlX7 rfl 32 rfl zk_t4_145 hts hown hK hH hk_mo h_mo rfl dX7_stands_6 ?_
      obtain ⟨k1, hf⟩ := zck_some hf
      refine lz_icmp_ge (tgt := 36) hx hb k1 dX7_stands_9 (by decide) (fun c2 => ?_) (fun c2 => ?_)
      · replace hf := (if_pos c2).symm.trans hf
        cases hf
        cases hnx
        exact kx _ _ _ hH h_mo h_mo_brokenAt hbg _ (lv_sub hl [1] rfl)
      · replace hf := (if_neg c2).symm.trans hf
        refine lv_iload_n hx hb dX7_stands_12 rfl (lv_at hl 1 rfl) ?_
        obtain ⟨k3, hf⟩ := zck_some hf
        refine lz_if_ne (tgt := 24) hx hb k3 dX7_stands_13 (by decide) (fun c4 => ?_) (fun c4 => ?_)
        · replace hf := (if_neg c4).symm.trans hf
          exact JL4_24 x2 _ _ _ hH h_mo h_mo_brokenAt hbg _ (lv_sub hl [0, 2] rfl) hf
        · replace hf := (if_pos c4).symm.trans hf
          refine lv_aload_n hx hb dX7_stands_16 rfl (lv_at hl 0 rfl) ?_
          refine lv_iload_n hx hb dX7_stands_17 rfl (lv_at hl 2 rfl) ?_
          obtain ⟨r5, k6, hf⟩ := zb1_some hf
          refine zcVi (C := RX7) (As := [.int (zI x2)]) (rest := []) hx hb hml hown hts hl.1 hK hH hA (c_X7_isSeen hI hN  h_mo h_mo_brokenAt k6) zk_t5_209 zk_t5_211 zk_s4_5 zk_t1_6 zk_t5_212 hd_X7_isSeen rfl ⟨rfl, rfl, Nat.le_of_ble_eq_true rfl, Nat.le_of_ble_eq_true rfl⟩ ⟨Nat.zero_le _, Nat.zero_le _⟩ hk_mo h_mo rfl rfl rfl (Nat.le_of_ble_eq_true rfl) dX7_stands_18 (fun q8 σ7 Hσ7 lσ7 hp hH => ?_)
          obtain ⟨hr1, hs1⟩ := hp; subst hr1; rw [hs1] at hH
          obtain ⟨k9, hf⟩ := zck_some hf
          refine lz_if_eq (tgt := 28) hx hb k9 dX7_stands_21 (by decide) (fun c10 => ?_) (fun c10 => ?_)
          · replace hf := (if_pos c10).symm.trans hf
            refine lv_iconst (v := zI 0) hx hb dX7_stands_28 (by decide +kernel) ?_
            refine lv_istore_n (lv' := [(1, .int (zI 0)), (0, .ref (ad 19)), (2, .int (zI x2))]) hx hb dX7_stands_29 rfl hl (by decide) rfl (fun ls hl => ?_)
            refine lz_iinc (lv' := [(2, .int (zI (x2 + 1))), (1, .int (zI 0)), (0, .ref (ad 19))]) hx hb dX7_stands_30 hl (j := 2) rfl (by decide) rfl (fun ls hl => ?_)
            refine lv_goto (tgt := 4) hx hb dX7_stands_33 (by decide) ?_
            cases hf
            exact ih 0 (x2 + 1) _ _ hnx _ _ _ hH h_mo h_mo_brokenAt hbg _ (lv_sub hl [2, 1, 0] rfl) kx
          · replace hf := (if_neg c10).symm.trans hf
            exact JL4_24 x2 _ _ _ hH h_mo h_mo_brokenAt hbg _ (lv_sub hl [0, 2] rfl) hf
  unfold f_X7_stands at hf
  refine lv_iconst (v := zI 0) hx hb dX7_stands_0 (by decide +kernel) ?_
  refine lv_istore_n (lv' := [(1, .int (zI 0)), (0, .ref (ad 19))]) hx hb dX7_stands_1 rfl hl (by decide) rfl (fun ls hl => ?_)
  refine lv_iconst (v := zI 0) hx hb dX7_stands_2 (by decide +kernel) ?_
  refine lv_istore_n (lv' := [(2, .int (zI 0)), (1, .int (zI 0)), (0, .ref (ad 19))]) hx hb dX7_stands_3 rfl hl (by decide) rfl (fun ls hl => ?_)
  obtain ⟨w12, w13, k11, hf⟩ := zb2_some hf
  refine L4 zFU 0 0 w12 w13 k11 _ _ _ hH h_mo h_mo_brokenAt hbg _ (lv_sub hl [2, 1, 0] rfl) (fun σ14 Hσ14 lσ14 hH h_mo h_mo_brokenAt hbg ls hl => ?_)
  refine lv_iload_n hx hb dX7_stands_36 rfl (lv_at hl 0 rfl) ?_
  obtain ⟨k15, hf⟩ := zck_some hf
  cases hf
  exact zretz hx hb hr hlocks hQ hH ⟨rfl, hbg⟩ (z_nar _ k15) dX7_stands_37
abbrev rmX7_run : Room := { frames := 2, cells := 0, slots := 0, locals := 43 }
theorem hd_X7_run : yX7_run.cls = RX7 ∧ yX7_run.cls ≠ "java/lang/invoke/MethodHandle" ∧ yX7_run.cls ≠ "java/lang/invoke/VarHandle" ∧ (parseMethodDescriptor yX7_run.desc).map (fun d => d.parameters.length) = some 1 := by decide +kernel
set_option maxHeartbeats 4000000 in
set_option maxRecDepth 100000 in
theorem c_X7_run {l : Launch} {D : va_G} {cI cZ cF cL cD : ClassId} {ad : Nat → Nat} {N : Nat} (hI : ∀ i j, i < N → j < N → ad i = ad j → i = j) (hN : 46 ≤ N) {σ0 : Nat → va_E} {sz : Nat} {mo_fields : Int} {mo_bound : Int} {mo_points : Int} {mo_crossings : Int} {mo_isKnown : Int} {mo_commands : Int} {mo_needleX : Int} {mo_needleY : Int} {mo_hasFile : Int} {mo_format : Int} {mo_length : Int} {mo_heads : Int} {mo_late : Int} {mo_ran : Int} {mo_program : Int} {mo_kinds : Int → Int} {mo_brokenAt : Int → Int} {mo_sewn : Int → Int} {mo_thrown : Int} {mo_rowY : Int} {mo_stitches : Int} {p1 : Int} {R0 : Int} {R_mo_ran : Int} {R_mo_sewn : Int → Int} {R_mo_thrown : Int} (h_mo : σ0 19 = oC_mo ad mo_fields mo_bound mo_points mo_crossings mo_isKnown mo_commands mo_needleX mo_needleY mo_hasFile mo_format mo_length mo_heads mo_late mo_ran mo_program mo_thrown mo_rowY mo_stitches) (h_mo_kinds : σ0 41 = .inl (cI, 20000, .inl (zA mo_kinds))) (h_mo_brokenAt : σ0 42 = .inl (cI, 4, .inl (zA mo_brokenAt))) (h_mo_sewn : σ0 43 = .inl (cI, 4, .inl (zA mo_sewn))) (hf : f_X7_run mo_heads mo_late mo_ran mo_program mo_kinds mo_brokenAt mo_sewn mo_thrown p1 = some (R0, R_mo_ran, R_mo_sewn, R_mo_thrown)) :
    Met l yX7_run (Cond.code yX7_run cX7_run 4 (some .int) :: wsL_law) rmX7_run (zPre D ad N (zT cI cZ cF cL cD) σ0 sz [.ref (ad 19), .int (zI p1)]) (zQi D ad N sz (fun r σ' => r = zI R0 ∧ σ' 19 = oC_mo ad mo_fields mo_bound mo_points mo_crossings mo_isKnown mo_commands mo_needleX mo_needleY mo_hasFile mo_format mo_length mo_heads mo_late R_mo_ran mo_program R_mo_thrown mo_rowY mo_stitches ∧ σ' 43 = .inl (cI, 4, .inl (zA R_mo_sewn)) ∧ ∀ i : Nat, i ≠ 19 → i ≠ 43 → σ' i = σ0 i)) 0 0 (zFr ad N sz) := by
  refine zMet hI (plainFor_of_name (by decide)) (Nat.le_of_ble_eq_true rfl) ⟨rfl, rfl⟩ ?_
  intro p e s m args below meth c Q hx hb hr hlocks hml hown hts hK hsz hQ hH hA ls hl
  subst hsz
  have hk_mo : 19 < N := by omega
  have hk_mo_kinds : 41 < N := by omega
  have hk_mo_brokenAt : 42 < N := by omega
  have hk_mo_sewn : 43 < N := by omega
  have hl : lv_has ls 4 [(0, .ref (ad 19)), (1, .int (zI p1))] := hl
  have hbg : ∀ i : Nat, i ≠ 19 → i ≠ 43 → σ0 i = σ0 i := fun _ _ _ => rfl
  have L32 : ∀ (mo_thrown : Int) (x1 : Int)  (n : Nat) (x2 : Int) (mo_ran : Int) (mo_sewn : Int → Int) (x2' : Int) (mo_ran' : Int) (mo_sewn' : Int → Int), zlp (fun z => f_X7_run_L32 mo_heads mo_late mo_program mo_kinds mo_brokenAt mo_thrown x1 z.1 z.2.1 z.2.2) n (x2, mo_ran, mo_sewn) = some (x2', mo_ran', mo_sewn') → ∀ (σ : Nat → va_E) (H : Heap) (locs : List Loc) (hH : zH D ad N (zFr ad N s.heap.size) s.heap σ H locs) (h_mo : σ 19 = oC_mo ad mo_fields mo_bound mo_points mo_crossings mo_isKnown mo_commands mo_needleX mo_needleY mo_hasFile mo_format mo_length mo_heads mo_late mo_ran mo_program mo_thrown mo_rowY mo_stitches) (h_mo_kinds : σ 41 = .inl (cI, 20000, .inl (zA mo_kinds))) (h_mo_brokenAt : σ 42 = .inl (cI, 4, .inl (zA mo_brokenAt))) (h_mo_sewn : σ 43 = .inl (cI, 4, .inl (zA mo_sewn))) (hbg : ∀ i : Nat, i ≠ 19 → i ≠ 43 → σ i = σ0 i) (ls : Array Slot) (hl : lv_has ls 4 [(0, .ref (ad 19)), (1, .int (zI x1)), (2, .int (zI x2))]), (∀ (σ : Nat → va_E) (H : Heap) (locs : List Loc) (hH : zH D ad N (zFr ad N s.heap.size) s.heap σ H locs) (h_mo : σ 19 = oC_mo ad mo_fields mo_bound mo_points mo_crossings mo_isKnown mo_commands mo_needleX mo_needleY mo_hasFile mo_format mo_length mo_heads mo_late (mo_ran') mo_program mo_thrown mo_rowY mo_stitches) (h_mo_kinds : σ 41 = .inl (cI, 20000, .inl (zA mo_kinds))) (h_mo_brokenAt : σ 42 = .inl (cI, 4, .inl (zA mo_brokenAt))) (h_mo_sewn : σ 43 = .inl (cI, 4, .inl (zA (mo_sewn')))) (hbg : ∀ i : Nat, i ≠ 19 → i ≠ 43 → σ i = σ0 i) (ls : Array Slot) (hl : lv_has ls 4 [(2, .int (zI (x2')))]), W p l e rmX7_run s m args below meth c H locs 0 0 Q (F0 m 123 ls [])) → W p l e rmX7_run s m args below meth c H locs 0 0 Q (F0 m 32 ls []) := by
    intro mo_thrown x1 n
    induction n with
    | zero => intro x2 mo_ran mo_sewn x2' mo_ran' mo_sewn' hz; exact (zlp_0 hz).elim
    | succ n ih =>
      intro x2 mo_ran mo_sewn x2' mo_ran' mo_sewn' hz σ H locs hH h_mo h_mo_kinds h_mo_brokenAt h_mo_sewn hbg ls hl kx
      obtain ⟨nx, hf, hnx⟩ := zlp_some hz
      have hf : f_X7_run_L32 mo_heads mo_late mo_program mo_kinds mo_brokenAt mo_thrown x1 x2 mo_ran mo_sewn = some nx := hf
      have L57 : ∀ (mo_ran : Int) (mo_thrown : Int) (x1 : Int) (x2 : Int)  (n : Nat) (x3 : Int) (mo_sewn : Int → Int) (x3' : Int) (mo_sewn' : Int → Int), zlp (fun z => f_X7_run_L57 mo_heads mo_late mo_ran mo_program mo_kinds mo_brokenAt mo_thrown x1 x2 z.1 z.2) n (x3, mo_sewn) = some (x3', mo_sewn') → ∀ (σ : Nat → va_E) (H : Heap) (locs : List Loc) (hH : zH D ad N (zFr ad N s.heap.size) s.heap σ H locs) (h_mo : σ 19 = oC_mo ad mo_fields mo_bound mo_points mo_crossings mo_isKnown mo_commands mo_needleX mo_needleY mo_hasFile mo_format mo_length mo_heads mo_late mo_ran mo_program mo_thrown mo_rowY mo_stitches) (h_mo_kinds : σ 41 = .inl (cI, 20000, .inl (zA mo_kinds))) (h_mo_brokenAt : σ 42 = .inl (cI, 4, .inl (zA mo_brokenAt))) (h_mo_sewn : σ 43 = .inl (cI, 4, .inl (zA mo_sewn))) (hbg : ∀ i : Nat, i ≠ 19 → i ≠ 43 → σ i = σ0 i) (ls : Array Slot) (hl : lv_has ls 4 [(0, .ref (ad 19)), (1, .int (zI x1)), (2, .int (zI x2)), (3, .int (zI x3))]), (∀ (σ : Nat → va_E) (H : Heap) (locs : List Loc) (hH : zH D ad N (zFr ad N s.heap.size) s.heap σ H locs) (h_mo : σ 19 = oC_mo ad mo_fields mo_bound mo_points mo_crossings mo_isKnown mo_commands mo_needleX mo_needleY mo_hasFile mo_format mo_length mo_heads mo_late mo_ran mo_program mo_thrown mo_rowY mo_stitches) (h_mo_kinds : σ 41 = .inl (cI, 20000, .inl (zA mo_kinds))) (h_mo_brokenAt : σ 42 = .inl (cI, 4, .inl (zA mo_brokenAt))) (h_mo_sewn : σ 43 = .inl (cI, 4, .inl (zA (mo_sewn')))) (hbg : ∀ i : Nat, i ≠ 19 → i ≠ 43 → σ i = σ0 i) (ls : Array Slot) (hl : lv_has ls 4 [(0, .ref (ad 19)), (1, .int (zI x1)), (2, .int (zI x2))]), W p l e rmX7_run s m args below meth c H locs 0 0 Q (F0 m 107 ls [])) → W p l e rmX7_run s m args below meth c H locs 0 0 Q (F0 m 57 ls []) := by
        intro mo_ran mo_thrown x1 x2 n
        induction n with
        | zero => intro x3 mo_sewn x3' mo_sewn' hz; exact (zlp_0 hz).elim
        | succ n ih =>
          intro x3 mo_sewn x3' mo_sewn' hz σ H locs hH h_mo h_mo_kinds h_mo_brokenAt h_mo_sewn hbg ls hl kx
          obtain ⟨nx, hf, hnx⟩ := zlp_some hz
          have hf : f_X7_run_L57 mo_heads mo_late mo_ran mo_program mo_kinds mo_brokenAt mo_thrown x1 x2 x3 mo_sewn = some nx := hf
          have JL57_99 : ∀ (mo_sewn : Int → Int) (x3 : Int) (s1 : Int) (s2 : Int) (s3 : Int) (σ : Nat → va_E) (H : Heap) (locs : List Loc) (hH : zH D ad N (zFr ad N s.heap.size) s.heap σ H locs) (h_mo : σ 19 = oC_mo ad mo_fields mo_bound mo_points mo_crossings mo_isKnown mo_commands mo_needleX mo_needleY mo_hasFile mo_format mo_length mo_heads mo_late mo_ran mo_program mo_thrown mo_rowY mo_stitches) (h_mo_kinds : σ 41 = .inl (cI, 20000, .inl (zA mo_kinds))) (h_mo_brokenAt : σ 42 = .inl (cI, 4, .inl (zA mo_brokenAt))) (h_mo_sewn : σ 43 = .inl (cI, 4, .inl (zA mo_sewn))) (hbg : ∀ i : Nat, i ≠ 19 → i ≠ 43 → σ i = σ0 i) (ls : Array Slot) (hl : lv_has ls 4 [(0, .ref (ad 19)), (1, .int (zI x1)), (2, .int (zI x2)), (3, .int (zI x3))]), f_X7_run_L57_99 mo_heads mo_late mo_ran mo_program mo_kinds mo_brokenAt mo_sewn mo_thrown x1 x2 x3 s1 s2 s3 = some nx → W p l e rmX7_run s m args below meth c H locs 0 0 Q (F0 m 99 ls [.int (zI s3), .int (zI s2), .int (zI s1), .ref (ad 43)]) := by
            intro mo_sewn x3 s1 s2 s3 σ H locs hH h_mo h_mo_kinds h_mo_brokenAt h_mo_sewn hbg ls hl hf
            unfold f_X7_run_L57_99 at hf
            refine lz_iadd hx hb dX7_run_99 ?_
            obtain ⟨k1, hf⟩ := zck_some hf
            obtain ⟨a3, ea3, hf⟩ := zlt_some hf
            refine ziast hx hb hK hH hk_mo_sewn 0 h_mo_sewn rfl k1 rfl dX7_run_100 (fun σ2 Hσ2 lσ2 h_mo_sewn hn hH => ?_)
            rw [← ea3] at h_mo_sewn
            have h_mo := (hn 19 (by decide)).trans h_mo
            have h_mo_kinds := (hn 41 (by decide)).trans h_mo_kinds
            have h_mo_brokenAt := (hn 42 (by decide)).trans h_mo_brokenAt
            have hbg : ∀ i : Nat, i ≠ 19 → i ≠ 43 → σ2 i = σ0 i := fun i a0 a1 => (hn i a1).trans (hbg i a0 a1)
            refine lz_iinc (lv' := [(3, .int (zI (x3 + 1))), (0, .ref (ad 19)), (1, .int (zI x1)), (2, .int (zI x2))]) hx hb dX7_run_101 hl (j := 3) rfl (by decide) rfl (fun ls hl => ?_)
            refine lv_goto (tgt := 57) hx hb dX7_run_104 (by decide) ?_
            cases hf
            exact ih (x3 + 1) a3 _ _ hnx _ _ _ hH h_mo h_mo_kinds h_mo_brokenAt h_mo_sewn hbg _ (lv_sub hl [1, 2, 3, 0] rfl) kx
          have JL57_98 : ∀ (mo_sewn : Int → Int) (x3 : Int) (s1 : Int) (s2 : Int) (σ : Nat → va_E) (H : Heap) (locs : List Loc) (hH : zH D ad N (zFr ad N s.heap.size) s.heap σ H locs) (h_mo : σ 19 = oC_mo ad mo_fields mo_bound mo_points mo_crossings mo_isKnown mo_commands mo_needleX mo_needleY mo_hasFile mo_format mo_length mo_heads mo_late mo_ran mo_program mo_thrown mo_rowY mo_stitches) (h_mo_kinds : σ 41 = .inl (cI, 20000, .inl (zA mo_kinds))) (h_mo_brokenAt : σ 42 = .inl (cI, 4, .inl (zA mo_brokenAt))) (h_mo_sewn : σ 43 = .inl (cI, 4, .inl (zA mo_sewn))) (hbg : ∀ i : Nat, i ≠ 19 → i ≠ 43 → σ i = σ0 i) (ls : Array Slot) (hl : lv_has ls 4 [(0, .ref (ad 19)), (1, .int (zI x1)), (2, .int (zI x2)), (3, .int (zI x3))]), f_X7_run_L57_98 mo_heads mo_late mo_ran mo_program mo_kinds mo_brokenAt mo_sewn mo_thrown x1 x2 x3 s1 s2 = some nx → W p l e rmX7_run s m args below meth c H locs 0 0 Q (F0 m 98 ls [.int (zI s2), .int (zI s1), .ref (ad 43)]) := by
            intro mo_sewn x3 s1 s2 σ H locs hH h_mo h_mo_kinds h_mo_brokenAt h_mo_sewn hbg ls hl hf
            unfold f_X7_run_L57_98 at hf
            refine lv_iconst (v := zI 0) hx hb dX7_run_98 (by decide +kernel) ?_
            exact JL57_99 mo_sewn x3 s1 s2 0 _ _ _ hH h_mo h_mo_kinds h_mo_brokenAt h_mo_sewn hbg _ (lv_sub hl [0, 1, 2, 3] rfl) hf
          unfold f_X7_run_L57 at hf
          refine lv_iload_n hx hb dX7_run_57 rfl (lv_at hl 3 rfl) ?_
          refine lv_aload_n hx hb dX7_run_58 rfl (lv_at hl 0 rfl) ?_
          refine zget hx hb inlX7 rfl 32 rfl zk_t4_145 hts hown hK hH hk_mo h_mo rfl dX7_run_59 ?_
          obtain ⟨k4, hf⟩ := zck_some hf
          refine lz_icmp_ge (tgt := 107) hx hb k4 dX7_run_62 (by decide) (fun c5 => ?_) (fun c5 => ?_)
          · replace hf := (if_pos c5).symm.trans hf
            cases hf
            cases hnx
            exact kx _ _ _ hH h_mo h_mo_kinds h_mo_brokenAt h_mo_sewn hbg _ (lv_sub hl [0, 1, 2] rfl)
          · replace hf := (if_neg c5).symm.trans hf
            refine lv_aload_n hx hb dX7_run_65 rfl (lv_at hl 0 rfl) ?_
            refine zget hx hb inlX7 rfl 38 rfl zk_t4_151 hts hown hK hH hk_mo h_mo rfl dX7_run_66 ?_
            refine lv_iload_n hx hb dX7_run_69 rfl (lv_at hl 3 rfl) ?_
            refine lv_dup2_11 hx hb dX7_run_70 rfl rfl ?_
            obtain ⟨k6, hf⟩ := zck_some hf
            refine ziald hx hb hK hH hk_mo_sewn 0 h_mo_sewn rfl k6 rfl dX7_run_71 ?_
            refine lv_aload_n hx hb dX7_run_72 rfl (lv_at hl 0 rfl) ?_
            refine zget hx hb inlX7 rfl 36 rfl zk_t4_149 hts hown hK hH hk_mo h_mo rfl dX7_run_73 ?_
            refine lv_aload_n hx hb dX7_run_76 rfl (lv_at hl 0 rfl) ?_
            refine zget hx hb inlX7 rfl 34 rfl zk_t4_147 hts hown hK hH hk_mo h_mo rfl dX7_run_77 ?_
            obtain ⟨k7, hf⟩ := zck_some hf
            refine ziald hx hb hK hH hk_mo_kinds 0 h_mo_kinds rfl k7 rfl dX7_run_80 ?_
            obtain ⟨k8, hf⟩ := zck_some hf
            refine lz_if_ne (tgt := 98) hx hb k8 dX7_run_81 (by decide) (fun c9 => ?_) (fun c9 => ?_)
            · replace hf := (if_neg c9).symm.trans hf
              exact JL57_98 mo_sewn x3 x3 (mo_sewn x3) _ _ _ hH h_mo h_mo_kinds h_mo_brokenAt h_mo_sewn hbg _ (lv_sub hl [0, 1, 2, 3] rfl) hf
            · replace hf := (if_pos c9).symm.trans hf
              refine lv_aload_n hx hb dX7_run_84 rfl (lv_at hl 0 rfl) ?_
              refine zget hx hb inlX7 rfl 37 rfl zk_t4_150 hts hown hK hH hk_mo h_mo rfl dX7_run_85 ?_
              refine lv_iload_n hx hb dX7_run_88 rfl (lv_at hl 3 rfl) ?_
              obtain ⟨k10, hf⟩ := zck_some hf
              refine ziald hx hb hK hH hk_mo_brokenAt 0 h_mo_brokenAt rfl k10 rfl dX7_run_89 ?_
              refine lv_iconst (v := zI (-1)) hx hb dX7_run_90 (by decide +kernel) ?_
              obtain ⟨k11, hf⟩ := zck_some hf
              refine lz_icmp_ne (tgt := 98) hx hb ⟨k11, by decide⟩ dX7_run_91 (by decide) (fun c12 => ?_) (fun c12 => ?_)
              · replace hf := (if_neg c12).symm.trans hf
                exact JL57_98 mo_sewn x3 x3 (mo_sewn x3) _ _ _ hH h_mo h_mo_kinds h_mo_brokenAt h_mo_sewn hbg _ (lv_sub hl [0, 1, 2, 3] rfl) hf
              · replace hf := (if_pos c12).symm.trans hf
                refine lv_iconst (v := zI 1) hx hb dX7_run_94 (by decide +kernel) ?_
                refine lv_goto (tgt := 99) hx hb dX7_run_95 (by decide) ?_
                exact JL57_99 mo_sewn x3 x3 (mo_sewn x3) 1 _ _ _ hH h_mo h_mo_kinds h_mo_brokenAt h_mo_sewn hbg _ (lv_sub hl [0, 1, 2, 3] rfl) hf
      unfold f_X7_run_L32 at hf
      refine lv_iload_n hx hb dX7_run_32 rfl (lv_at hl 2 rfl) ?_
      refine lv_iload_n hx hb dX7_run_33 rfl (lv_at hl 1 rfl) ?_
      obtain ⟨k13, hf⟩ := zck_some hf
      refine lz_icmp_ge (tgt := 123) hx hb k13 dX7_run_34 (by decide) (fun c14 => ?_) (fun c14 => ?_)
      · replace hf := (if_pos c14).symm.trans hf
        cases hf
        cases hnx
        exact kx _ _ _ hH h_mo h_mo_kinds h_mo_brokenAt h_mo_sewn hbg _ (lv_sub hl [2] rfl)
      · replace hf := (if_neg c14).symm.trans hf
        refine lv_aload_n hx hb dX7_run_37 rfl (lv_at hl 0 rfl) ?_
        refine zget hx hb inlX7 rfl 34 rfl zk_t4_147 hts hown hK hH hk_mo h_mo rfl dX7_run_38 ?_
        refine lv_aload_n hx hb dX7_run_41 rfl (lv_at hl 0 rfl) ?_
        refine zget hx hb inlX7 rfl 35 rfl zk_t4_148 hts hown hK hH hk_mo h_mo rfl dX7_run_42 ?_
        obtain ⟨k15, hf⟩ := zck_some hf
        refine lz_icmp_ge (tgt := 123) hx hb k15 dX7_run_45 (by decide) (fun c16 => ?_) (fun c16 => ?_)
        · replace hf := (if_pos c16).symm.trans hf
          cases hf
          cases hnx
          exact kx _ _ _ hH h_mo h_mo_kinds h_mo_brokenAt h_mo_sewn hbg _ (lv_sub hl [2] rfl)
        · replace hf := (if_neg c16).symm.trans hf
          refine lv_aload_n hx hb dX7_run_48 rfl (lv_at hl 0 rfl) ?_
          obtain ⟨r17, k18, hf⟩ := zb1_some hf
          refine zcVi (C := RX7) (As := []) (rest := []) hx hb hml hown hts hl.1 hK hH hA (c_X7_stands hI hN  h_mo h_mo_brokenAt k18) zk_t5_205 zk_t5_207 zk_s4_4 zk_t1_6 zk_t5_208 hd_X7_stands rfl ⟨rfl, rfl, Nat.le_of_ble_eq_true rfl, Nat.le_of_ble_eq_true rfl⟩ ⟨Nat.zero_le _, Nat.zero_le _⟩ hk_mo h_mo rfl rfl rfl (Nat.le_of_ble_eq_true rfl) dX7_run_49 (fun q20 σ19 Hσ19 lσ19 hp hH => ?_)
          obtain ⟨hr1, hs1⟩ := hp; subst hr1; rw [hs1] at hH
          obtain ⟨k21, hf⟩ := zck_some hf
          refine lz_if_ne (tgt := 123) hx hb k21 dX7_run_52 (by decide) (fun c22 => ?_) (fun c22 => ?_)
          · replace hf := (if_neg c22).symm.trans hf
            cases hf
            cases hnx
            exact kx _ _ _ hH h_mo h_mo_kinds h_mo_brokenAt h_mo_sewn hbg _ (lv_sub hl [2] rfl)
          · replace hf := (if_pos c22).symm.trans hf
            refine lv_iconst (v := zI 0) hx hb dX7_run_55 (by decide +kernel) ?_
            refine lv_istore_n (lv' := [(3, .int (zI 0)), (0, .ref (ad 19)), (1, .int (zI x1)), (2, .int (zI x2))]) hx hb dX7_run_56 rfl hl (by decide) rfl (fun ls hl => ?_)
            obtain ⟨w24, w25, k23, hf⟩ := zb2_some hf
            refine L57 mo_ran mo_thrown x1 x2 zFU 0 mo_sewn w24 w25 k23 _ _ _ hH h_mo h_mo_kinds h_mo_brokenAt h_mo_sewn hbg _ (lv_sub hl [1, 2, 3, 0] rfl) (fun σ26 Hσ26 lσ26 hH h_mo h_mo_kinds h_mo_brokenAt h_mo_sewn hbg ls hl => ?_)
            refine lv_aload_n hx hb dX7_run_107 rfl (lv_at hl 0 rfl) ?_
            refine lv_dup hx hb dX7_run_108 rfl ?_
            refine zget hx hb inlX7 rfl 34 rfl zk_t4_147 hts hown hK hH hk_mo h_mo rfl dX7_run_109 ?_
            refine lv_iconst (v := zI 1) hx hb dX7_run_112 (by decide +kernel) ?_
            refine lz_iadd hx hb dX7_run_113 ?_
            obtain ⟨v27, ev27, hf⟩ := zlt_some hf
            refine lz_nm ev27 ?_
            refine zput hx hb inlX7 tyX7 tyX7_ok nmX7 rfl 34 rfl zk_t4_147 rfl hts hown hK hH hk_mo h_mo rfl rfl rfl dX7_run_114 (fun σ28 Hσ28 lσ28 h_mo hn hH => ?_)
            have h_mo : σ28 19 = oC_mo ad mo_fields mo_bound mo_points mo_crossings mo_isKnown mo_commands mo_needleX mo_needleY mo_hasFile mo_format mo_length mo_heads mo_late v27 mo_program mo_thrown mo_rowY mo_stitches := h_mo
            have h_mo_kinds := (hn 41 (by decide)).trans h_mo_kinds
            have h_mo_brokenAt := (hn 42 (by decide)).trans h_mo_brokenAt
            have h_mo_sewn := (hn 43 (by decide)).trans h_mo_sewn
            have hbg : ∀ i : Nat, i ≠ 19 → i ≠ 43 → σ28 i = σ0 i := fun i a0 a1 => (hn i a0).trans (hbg i a0 a1)
            refine lz_iinc (lv' := [(2, .int (zI (x2 + 1))), (0, .ref (ad 19)), (1, .int (zI x1))]) hx hb dX7_run_117 hl (j := 2) rfl (by decide) rfl (fun ls hl => ?_)
            refine lv_goto (tgt := 32) hx hb dX7_run_120 (by decide) ?_
            cases hf
            exact ih (x2 + 1) v27 w25 _ _ _ hnx _ _ _ hH h_mo h_mo_kinds h_mo_brokenAt h_mo_sewn hbg _ (lv_sub hl [1, 2, 0] rfl) kx
  unfold f_X7_run at hf
  refine lv_aload_n hx hb dX7_run_0 rfl (lv_at hl 0 rfl) ?_
  refine lv_iload_n hx hb dX7_run_1 rfl (lv_at hl 1 rfl) ?_
  refine lv_iconst (v := zI 1) hx hb dX7_run_2 (by decide +kernel) ?_
  refine lv_sipush (v := zI 1000) hx hb dX7_run_3 (by decide +kernel) ?_
  obtain ⟨r29, k30, hf⟩ := zb1_some hf
  refine zcSi (As := [.int (zI p1), .int (zI 1), .int (zI 1000)]) (rest := [.ref (ad 19)]) hx hb hml hown hts hl.1 hK hH hA (c_X7_in hI hN   k30) zk_t5_8 zk_t5_9 zk_t1_6 zk_t5_10 hd_X7_in rfl ⟨rfl, rfl, Nat.le_of_ble_eq_true rfl, Nat.le_of_ble_eq_true rfl⟩ ⟨Nat.zero_le _, Nat.zero_le _⟩ rfl (Nat.le_of_ble_eq_true rfl) dX7_run_6 (fun q32 σ31 Hσ31 lσ31 hp hH => ?_)
  obtain ⟨hr1, hs1⟩ := hp; subst hr1; rw [hs1] at hH
  obtain ⟨r33, u34, k35, hf⟩ := zb2_some hf
  refine zcVi (C := RX7) (As := [.int (zI r29)]) (rest := []) hx hb hml hown hts hl.1 hK hH hA (c_X7_asks hI hN  h_mo k35) zk_t5_11 zk_t5_13 zk_s2_13 zk_t1_6 zk_t5_14 hd_X7_asks rfl ⟨rfl, rfl, Nat.le_of_ble_eq_true rfl, Nat.le_of_ble_eq_true rfl⟩ ⟨Nat.zero_le _, Nat.zero_le _⟩ hk_mo h_mo rfl rfl rfl (Nat.le_of_ble_eq_true rfl) dX7_run_9 (fun q37 σ36 Hσ36 lσ36 hp hH => ?_)
  obtain ⟨hr1, h_mo, hn⟩ := hp
  subst hr1
  have h_mo_kinds := (hn 41 (by decide)).trans h_mo_kinds
  have h_mo_brokenAt := (hn 42 (by decide)).trans h_mo_brokenAt
  have h_mo_sewn := (hn 43 (by decide)).trans h_mo_sewn
  have hbg : ∀ i : Nat, i ≠ 19 → i ≠ 43 → σ36 i = σ0 i := fun i a0 a1 => (hn i a0).trans (hbg i a0 a1)
  obtain ⟨k38, hf⟩ := zck_some hf
  refine lz_if_ne (tgt := 17) hx hb k38 dX7_run_12 (by decide) (fun c39 => ?_) (fun c39 => ?_)
  · replace hf := (if_neg c39).symm.trans hf
    refine lv_aload_n hx hb dX7_run_17 rfl (lv_at hl 0 rfl) ?_
    refine zget hx hb inlX7 rfl 32 rfl zk_t4_145 hts hown hK hH hk_mo h_mo rfl dX7_run_18 ?_
    obtain ⟨k40, hf⟩ := zck_some hf
    refine lz_if_ne (tgt := 30) hx hb k40 dX7_run_21 (by decide) (fun c41 => ?_) (fun c41 => ?_)
    · replace hf := (if_neg c41).symm.trans hf
      refine lv_iconst (v := zI 0) hx hb dX7_run_30 (by decide +kernel) ?_
      refine lv_istore_n (lv' := [(2, .int (zI 0)), (0, .ref (ad 19)), (1, .int (zI p1))]) hx hb dX7_run_31 rfl hl (by decide) rfl (fun ls hl => ?_)
      obtain ⟨w43, w44, w45, k42, hf⟩ := zb3_some hf
      refine L32 u34 p1 zFU 0 mo_ran mo_sewn w43 w44 w45 k42 _ _ _ hH h_mo h_mo_kinds h_mo_brokenAt h_mo_sewn hbg _ (lv_sub hl [1, 2, 0] rfl) (fun σ46 Hσ46 lσ46 hH h_mo h_mo_kinds h_mo_brokenAt h_mo_sewn hbg ls hl => ?_)
      refine lv_iload_n hx hb dX7_run_123 rfl (lv_at hl 0 rfl) ?_
      cases hf
      exact zreti hx hb hr hlocks hQ hH ⟨rfl, h_mo, h_mo_sewn, hbg⟩ dX7_run_124
    · replace hf := (if_pos c41).symm.trans hf
      refine lv_aload_n hx hb dX7_run_24 rfl (lv_at hl 0 rfl) ?_
      refine lv_iconst (v := zI 2) hx hb dX7_run_25 (by decide +kernel) ?_
      obtain ⟨r47, u48, k49, hf⟩ := zb2_some hf
      refine zcVi (C := RX7) (As := [.int (zI 2)]) (rest := []) hx hb hml hown hts hl.1 hK hH hA (c_X7_fails hI hN  h_mo k49) zk_t5_15 zk_t5_17 zk_s2_14 zk_t1_6 zk_t5_18 hd_X7_fails rfl ⟨rfl, rfl, Nat.le_of_ble_eq_true rfl, Nat.le_of_ble_eq_true rfl⟩ ⟨Nat.zero_le _, Nat.zero_le _⟩ hk_mo h_mo rfl rfl rfl (Nat.le_of_ble_eq_true rfl) dX7_run_26 (fun q51 σ50 Hσ50 lσ50 hp hH => ?_)
      obtain ⟨hr1, h_mo, hn⟩ := hp
      subst hr1
      have h_mo_kinds := (hn 41 (by decide)).trans h_mo_kinds
      have h_mo_brokenAt := (hn 42 (by decide)).trans h_mo_brokenAt
      have h_mo_sewn := (hn 43 (by decide)).trans h_mo_sewn
      have hbg : ∀ i : Nat, i ≠ 19 → i ≠ 43 → σ50 i = σ0 i := fun i a0 a1 => (hn i a0).trans (hbg i a0 a1)
      cases hf
      exact zreti hx hb hr hlocks hQ hH ⟨rfl, h_mo, h_mo_sewn, hbg⟩ dX7_run_29
  · replace hf := (if_pos c39).symm.trans hf
    refine lv_iconst (v := zI 0) hx hb dX7_run_15 (by decide +kernel) ?_
    cases hf
    exact zreti hx hb hr hlocks hQ hH ⟨rfl, h_mo, h_mo_sewn, hbg⟩ dX7_run_16
