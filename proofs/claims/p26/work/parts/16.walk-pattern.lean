abbrev rmX2_has : Room := { frames := 0, cells := 0, slots := 0, locals := 0 }
theorem hd_X2_has : yX2_has.cls = RX2 ∧ yX2_has.cls ≠ "java/lang/invoke/MethodHandle" ∧ yX2_has.cls ≠ "java/lang/invoke/VarHandle" ∧ (parseMethodDescriptor yX2_has.desc).map (fun d => d.parameters.length) = some 1 := by decide +kernel
set_option maxHeartbeats 4000000 in
set_option maxRecDepth 100000 in
theorem c_X2_has {l : Launch} {D : va_G} {cI cZ cF cL cD : ClassId} {ad : Nat → Nat} {N : Nat} (hI : ∀ i j, i < N → j < N → ad i = ad j → i = j) (hN : 19 ≤ N) {σ0 : Nat → va_E} {sz : Nat} {pa_bytes : Int → Int} {pa_size : Int} {pa_format : Int} {pa_faultPlace : Int} {pa_stitchesRead : Int} {p1 : Int} {R0 : Int} (h_pa : σ0 12 = oC_pa ad pa_size pa_format pa_faultPlace pa_stitchesRead) (h_pa_bytes : σ0 13 = .inl (cI, 49924, .inl (zA pa_bytes))) (hf : f_X2_has pa_size p1 = some R0) :
    Met l yX2_has (Cond.code yX2_has cX2_has 2 (some .boolean) :: wsL_law) rmX2_has (zPre D ad N (zT cI cZ cF cL cD) σ0 sz [.ref (ad 12), .int (zI p1)]) (zQi D ad N sz (fun r σ' => r = zI R0 ∧ σ' = σ0)) 0 0 (zFr ad N sz) := by
  refine zMet hI (plainFor_of_name (by decide)) (Nat.le_of_ble_eq_true rfl) ⟨rfl, rfl⟩ ?_
  intro p e s m args below meth c Q hx hb hr hlocks hml hown hts hK hsz hQ hH hA ls hl
  subst hsz
  have hk_pa : 12 < N := by omega
  have hk_pa_bytes : 13 < N := by omega
  have hl : lv_has ls 2 [(0, .ref (ad 12)), (1, .int (zI p1))] := hl
  have hbg : σ0 = σ0 := rfl
  unfold f_X2_has at hf
  refine lv_iload_n hx hb dX2_has_0 rfl (lv_at hl 1 rfl) ?_
  obtain ⟨k1, hf⟩ := zck_some hf
  refine lz_if_lt (tgt := 25) hx hb k1 dX2_has_1 (by decide) (fun c2 => ?_) (fun c2 => ?_)
  · replace hf := (if_pos c2).symm.trans hf
    refine lv_iconst (v := zI 0) hx hb dX2_has_25 (by decide +kernel) ?_
    cases hf
    exact zretz hx hb hr hlocks hQ hH ⟨rfl, hbg⟩ (z_nar _ (Or.inl rfl)) dX2_has_26
  · replace hf := (if_neg c2).symm.trans hf
    refine lv_iload_n hx hb dX2_has_4 rfl (lv_at hl 1 rfl) ?_
    refine lv_aload_n hx hb dX2_has_5 rfl (lv_at hl 0 rfl) ?_
    refine zget hx hb inlX2 rfl 1 rfl zk_t1_97 hts hown hK hH hk_pa h_pa rfl dX2_has_6 ?_
    obtain ⟨k3, hf⟩ := zck_some hf
    refine lz_icmp_ge (tgt := 25) hx hb k3 dX2_has_9 (by decide) (fun c4 => ?_) (fun c4 => ?_)
    · replace hf := (if_pos c4).symm.trans hf
      refine lv_iconst (v := zI 0) hx hb dX2_has_25 (by decide +kernel) ?_
      cases hf
      exact zretz hx hb hr hlocks hQ hH ⟨rfl, hbg⟩ (z_nar _ (Or.inl rfl)) dX2_has_26
    · replace hf := (if_neg c4).symm.trans hf
      refine lv_iload_n hx hb dX2_has_12 rfl (lv_at hl 1 rfl) ?_
      refine lv_aload_n hx hb dX2_has_13 rfl (lv_at hl 0 rfl) ?_
      refine zget hx hb inlX2 rfl 0 rfl zk_t1_95 hts hown hK hH hk_pa h_pa rfl dX2_has_14 ?_
      refine zalen (z := 49924) hx hb hK hH hk_pa_bytes 0 h_pa_bytes rfl (show Int32.ofNat 49924 = zI 49924 by decide +kernel) dX2_has_17 ?_
      obtain ⟨k5, hf⟩ := zck_some hf
      refine lz_icmp_ge (tgt := 25) hx hb ⟨k5, by decide⟩ dX2_has_18 (by decide) (fun c6 => ?_) (fun c6 => ?_)
      · replace hf := (if_pos c6).symm.trans hf
        refine lv_iconst (v := zI 0) hx hb dX2_has_25 (by decide +kernel) ?_
        cases hf
        exact zretz hx hb hr hlocks hQ hH ⟨rfl, hbg⟩ (z_nar _ (Or.inl rfl)) dX2_has_26
      · replace hf := (if_neg c6).symm.trans hf
        refine lv_iconst (v := zI 1) hx hb dX2_has_21 (by decide +kernel) ?_
        refine lv_goto (tgt := 26) hx hb dX2_has_22 (by decide) ?_
        cases hf
        exact zretz hx hb hr hlocks hQ hH ⟨rfl, hbg⟩ (z_nar _ (Or.inr rfl)) dX2_has_26
abbrev rmX2_limit : Room := { frames := 0, cells := 0, slots := 0, locals := 0 }
theorem hd_X2_limit : yX2_limit.cls = RX2 ∧ yX2_limit.cls ≠ "java/lang/invoke/MethodHandle" ∧ yX2_limit.cls ≠ "java/lang/invoke/VarHandle" ∧ (parseMethodDescriptor yX2_limit.desc).map (fun d => d.parameters.length) = some 0 := by decide +kernel
set_option maxHeartbeats 4000000 in
set_option maxRecDepth 100000 in
theorem c_X2_limit {l : Launch} {D : va_G} {cI cZ cF cL cD : ClassId} {ad : Nat → Nat} {N : Nat} (hI : ∀ i j, i < N → j < N → ad i = ad j → i = j) (hN : 19 ≤ N) {σ0 : Nat → va_E} {sz : Nat} {pa_size : Int} {pa_format : Int} {pa_faultPlace : Int} {pa_stitchesRead : Int} {R0 : Int} (h_pa : σ0 12 = oC_pa ad pa_size pa_format pa_faultPlace pa_stitchesRead) (hf : f_X2_limit pa_format = some R0) :
    Met l yX2_limit (Cond.code yX2_limit cX2_limit 1 (some .int) :: wsL_law) rmX2_limit (zPre D ad N (zT cI cZ cF cL cD) σ0 sz [.ref (ad 12)]) (zQi D ad N sz (fun r σ' => r = zI R0 ∧ σ' = σ0)) 0 0 (zFr ad N sz) := by
  refine zMet hI (plainFor_of_name (by decide)) (Nat.le_of_ble_eq_true rfl) ⟨rfl, rfl⟩ ?_
  intro p e s m args below meth c Q hx hb hr hlocks hml hown hts hK hsz hQ hH hA ls hl
  subst hsz
  have hk_pa : 12 < N := by omega
  have hl : lv_has ls 1 [(0, .ref (ad 12))] := hl
  have hbg : σ0 = σ0 := rfl
  unfold f_X2_limit at hf
  refine lv_aload_n hx hb dX2_limit_0 rfl (lv_at hl 0 rfl) ?_
  refine zget hx hb inlX2 rfl 2 rfl zk_t1_99 hts hown hK hH hk_pa h_pa rfl dX2_limit_1 ?_
  obtain ⟨k1, hf⟩ := zck_some hf
  refine lz_if_ne (tgt := 12) hx hb k1 dX2_limit_4 (by decide) (fun c2 => ?_) (fun c2 => ?_)
  · replace hf := (if_neg c2).symm.trans hf
    refine lv_bipush (v := zI 121) hx hb dX2_limit_12 (by decide +kernel) ?_
    cases hf
    exact zreti hx hb hr hlocks hQ hH ⟨rfl, hbg⟩ dX2_limit_14
  · replace hf := (if_pos c2).symm.trans hf
    refine lv_bipush (v := zI 12) hx hb dX2_limit_7 (by decide +kernel) ?_
    refine lv_goto (tgt := 14) hx hb dX2_limit_9 (by decide) ?_
    cases hf
    exact zreti hx hb hr hlocks hQ hH ⟨rfl, hbg⟩ dX2_limit_14
abbrev rmX2_bytesOfCommand : Room := { frames := 0, cells := 0, slots := 0, locals := 0 }
theorem hd_X2_bytesOfCommand : yX2_bytesOfCommand.cls = RX2 ∧ yX2_bytesOfCommand.cls ≠ "java/lang/invoke/MethodHandle" ∧ yX2_bytesOfCommand.cls ≠ "java/lang/invoke/VarHandle" ∧ (parseMethodDescriptor yX2_bytesOfCommand.desc).map (fun d => d.parameters.length) = some 0 := by decide +kernel
set_option maxHeartbeats 4000000 in
set_option maxRecDepth 100000 in
theorem c_X2_bytesOfCommand {l : Launch} {D : va_G} {cI cZ cF cL cD : ClassId} {ad : Nat → Nat} {N : Nat} (hI : ∀ i j, i < N → j < N → ad i = ad j → i = j) (hN : 19 ≤ N) {σ0 : Nat → va_E} {sz : Nat} {pa_size : Int} {pa_format : Int} {pa_faultPlace : Int} {pa_stitchesRead : Int} {R0 : Int} (h_pa : σ0 12 = oC_pa ad pa_size pa_format pa_faultPlace pa_stitchesRead) (hf : f_X2_bytesOfCommand pa_format = some R0) :
    Met l yX2_bytesOfCommand (Cond.code yX2_bytesOfCommand cX2_bytesOfCommand 1 (some .int) :: wsL_law) rmX2_bytesOfCommand (zPre D ad N (zT cI cZ cF cL cD) σ0 sz [.ref (ad 12)]) (zQi D ad N sz (fun r σ' => r = zI R0 ∧ σ' = σ0)) 0 0 (zFr ad N sz) := by
  refine zMet hI (plainFor_of_name (by decide)) (Nat.le_of_ble_eq_true rfl) ⟨rfl, rfl⟩ ?_
  intro p e s m args below meth c Q hx hb hr hlocks hml hown hts hK hsz hQ hH hA ls hl
  subst hsz
  have hk_pa : 12 < N := by omega
  have hl : lv_has ls 1 [(0, .ref (ad 12))] := hl
  have hbg : σ0 = σ0 := rfl
  unfold f_X2_bytesOfCommand at hf
  refine lv_aload_n hx hb dX2_bytesOfCommand_0 rfl (lv_at hl 0 rfl) ?_
  refine zget hx hb inlX2 rfl 2 rfl zk_t1_99 hts hown hK hH hk_pa h_pa rfl dX2_bytesOfCommand_1 ?_
  obtain ⟨k1, hf⟩ := zck_some hf
  refine lz_if_ne (tgt := 11) hx hb k1 dX2_bytesOfCommand_4 (by decide) (fun c2 => ?_) (fun c2 => ?_)
  · replace hf := (if_neg c2).symm.trans hf
    refine lv_iconst (v := zI 3) hx hb dX2_bytesOfCommand_11 (by decide +kernel) ?_
    cases hf
    exact zreti hx hb hr hlocks hQ hH ⟨rfl, hbg⟩ dX2_bytesOfCommand_12
  · replace hf := (if_pos c2).symm.trans hf
    refine lv_iconst (v := zI 2) hx hb dX2_bytesOfCommand_7 (by decide +kernel) ?_
    refine lv_goto (tgt := 12) hx hb dX2_bytesOfCommand_8 (by decide) ?_
    cases hf
    exact zreti hx hb hr hlocks hQ hH ⟨rfl, hbg⟩ dX2_bytesOfCommand_12
abbrev rmX2_putByte : Room := { frames := 0, cells := 0, slots := 0, locals := 0 }
theorem hd_X2_putByte : yX2_putByte.cls = RX2 ∧ yX2_putByte.cls ≠ "java/lang/invoke/MethodHandle" ∧ yX2_putByte.cls ≠ "java/lang/invoke/VarHandle" ∧ (parseMethodDescriptor yX2_putByte.desc).map (fun d => d.parameters.length) = some 1 := by decide +kernel
set_option maxHeartbeats 4000000 in
set_option maxRecDepth 100000 in
theorem c_X2_putByte {l : Launch} {D : va_G} {cI cZ cF cL cD : ClassId} {ad : Nat → Nat} {N : Nat} (hI : ∀ i j, i < N → j < N → ad i = ad j → i = j) (hN : 19 ≤ N) {σ0 : Nat → va_E} {sz : Nat} {pa_bytes : Int → Int} {pa_size : Int} {pa_format : Int} {pa_faultPlace : Int} {pa_stitchesRead : Int} {p1 : Int} {R_pa_bytes : Int → Int} {R_pa_size : Int} (h_pa : σ0 12 = oC_pa ad pa_size pa_format pa_faultPlace pa_stitchesRead) (h_pa_bytes : σ0 13 = .inl (cI, 49924, .inl (zA pa_bytes))) (hf : f_X2_putByte pa_bytes pa_size p1 = some (R_pa_bytes, R_pa_size)) :
    Met l yX2_putByte (Cond.code yX2_putByte cX2_putByte 3 none :: wsL_law) rmX2_putByte (zPre D ad N (zT cI cZ cF cL cD) σ0 sz [.ref (ad 12), .int (zI p1)]) (zQv D ad N sz (fun σ' => σ' 12 = oC_pa ad R_pa_size pa_format pa_faultPlace pa_stitchesRead ∧ σ' 13 = .inl (cI, 49924, .inl (zA R_pa_bytes)) ∧ ∀ i : Nat, i ≠ 12 → i ≠ 13 → σ' i = σ0 i)) 0 0 (zFr ad N sz) := by
  refine zMet hI (plainFor_of_name (by decide)) (Nat.le_of_ble_eq_true rfl) ⟨rfl, rfl⟩ ?_
  intro p e s m args below meth c Q hx hb hr hlocks hml hown hts hK hsz hQ hH hA ls hl
  subst hsz
  have hk_pa : 12 < N := by omega
  have hk_pa_bytes : 13 < N := by omega
  have hl : lv_has ls 3 [(0, .ref (ad 12)), (1, .int (zI p1))] := hl
  have hbg : ∀ i : Nat, i ≠ 12 → i ≠ 13 → σ0 i = σ0 i := fun _ _ _ => rfl
  unfold f_X2_putByte at hf
  refine lv_aload_n hx hb dX2_putByte_0 rfl (lv_at hl 0 rfl) ?_
  refine zget hx hb inlX2 rfl 1 rfl zk_t1_97 hts hown hK hH hk_pa h_pa rfl dX2_putByte_1 ?_
  refine lv_istore_n (lv' := [(2, .int (zI pa_size)), (0, .ref (ad 12)), (1, .int (zI p1))]) hx hb dX2_putByte_4 rfl hl (by decide) rfl (fun ls hl => ?_)
  refine lv_iload_n hx hb dX2_putByte_5 rfl (lv_at hl 0 rfl) ?_
  refine lv_aload_n hx hb dX2_putByte_6 rfl (lv_at hl 1 rfl) ?_
  refine zget hx hb inlX2 rfl 0 rfl zk_t1_95 hts hown hK hH hk_pa h_pa rfl dX2_putByte_7 ?_
  refine zalen (z := 49924) hx hb hK hH hk_pa_bytes 0 h_pa_bytes rfl (show Int32.ofNat 49924 = zI 49924 by decide +kernel) dX2_putByte_10 ?_
  obtain ⟨k1, hf⟩ := zck_some hf
  refine lz_icmp_ge (tgt := 28) hx hb ⟨k1, by decide⟩ dX2_putByte_11 (by decide) (fun c2 => ?_) (fun c2 => ?_)
  · replace hf := (if_pos c2).symm.trans hf
    cases hf
    exact zretv hx hb hr hlocks hQ hH ⟨h_pa, h_pa_bytes, hbg⟩ dX2_putByte_28
  · replace hf := (if_neg c2).symm.trans hf
    refine lv_aload_n hx hb dX2_putByte_14 rfl (lv_at hl 1 rfl) ?_
    refine zget hx hb inlX2 rfl 0 rfl zk_t1_95 hts hown hK hH hk_pa h_pa rfl dX2_putByte_15 ?_
    refine lv_iload_n hx hb dX2_putByte_18 rfl (lv_at hl 0 rfl) ?_
    refine lv_iload_n hx hb dX2_putByte_19 rfl (lv_at hl 2 rfl) ?_
    obtain ⟨k3, hf⟩ := zck_some hf
    obtain ⟨a5, ea5, hf⟩ := zlt_some hf
    refine ziast hx hb hK hH hk_pa_bytes 0 h_pa_bytes rfl k3 rfl dX2_putByte_20 (fun σ4 Hσ4 lσ4 h_pa_bytes hn hH => ?_)
    rw [← ea5] at h_pa_bytes
    have h_pa := (hn 12 (by decide)).trans h_pa
    have hbg : ∀ i : Nat, i ≠ 12 → i ≠ 13 → σ4 i = σ0 i := fun i a0 a1 => (hn i a1).trans (hbg i a0 a1)
    refine lv_aload_n hx hb dX2_putByte_21 rfl (lv_at hl 1 rfl) ?_
    refine lv_iload_n hx hb dX2_putByte_22 rfl (lv_at hl 0 rfl) ?_
    refine lv_iconst (v := zI 1) hx hb dX2_putByte_23 (by decide +kernel) ?_
    refine lz_iadd hx hb dX2_putByte_24 ?_
    obtain ⟨v6, ev6, hf⟩ := zlt_some hf
    refine lz_nm ev6 ?_
    refine zput hx hb inlX2 tyX2 tyX2_ok nmX2 rfl 1 rfl zk_t1_97 rfl hts hown hK hH hk_pa h_pa rfl rfl rfl dX2_putByte_25 (fun σ7 Hσ7 lσ7 h_pa hn hH => ?_)
    have h_pa : σ7 12 = oC_pa ad v6 pa_format pa_faultPlace pa_stitchesRead := h_pa
    have h_pa_bytes := (hn 13 (by decide)).trans h_pa_bytes
    have hbg : ∀ i : Nat, i ≠ 12 → i ≠ 13 → σ7 i = σ0 i := fun i a0 a1 => (hn i a0).trans (hbg i a0 a1)
    cases hf
    exact zretv hx hb hr hlocks hQ hH ⟨h_pa, h_pa_bytes, hbg⟩ dX2_putByte_28
abbrev rmX2_putCommand : Room := { frames := 1, cells := 0, slots := 0, locals := 22 }
theorem hd_X2_putCommand : yX2_putCommand.cls = RX2 ∧ yX2_putCommand.cls ≠ "java/lang/invoke/MethodHandle" ∧ yX2_putCommand.cls ≠ "java/lang/invoke/VarHandle" ∧ (parseMethodDescriptor yX2_putCommand.desc).map (fun d => d.parameters.length) = some 3 := by decide +kernel
set_option maxHeartbeats 4000000 in
set_option maxRecDepth 100000 in
theorem c_X2_putCommand {l : Launch} {D : va_G} {cI cZ cF cL cD : ClassId} {ad : Nat → Nat} {N : Nat} (hI : ∀ i j, i < N → j < N → ad i = ad j → i = j) (hN : 19 ≤ N) {σ0 : Nat → va_E} {sz : Nat} {pa_bytes : Int → Int} {pa_size : Int} {pa_format : Int} {pa_faultPlace : Int} {pa_stitchesRead : Int} {p1 : Int} {p2 : Int} {p3 : Int} {R_pa_bytes : Int → Int} {R_pa_size : Int} (h_pa : σ0 12 = oC_pa ad pa_size pa_format pa_faultPlace pa_stitchesRead) (h_pa_bytes : σ0 13 = .inl (cI, 49924, .inl (zA pa_bytes))) (hf : f_X2_putCommand pa_bytes pa_size pa_format p1 p2 p3 = some (R_pa_bytes, R_pa_size)) :
    Met l yX2_putCommand (Cond.code yX2_putCommand cX2_putCommand 4 none :: wsL_law) rmX2_putCommand (zPre D ad N (zT cI cZ cF cL cD) σ0 sz [.ref (ad 12), .int (zI p1), .int (zI p2), .int (zI p3)]) (zQv D ad N sz (fun σ' => σ' 12 = oC_pa ad R_pa_size pa_format pa_faultPlace pa_stitchesRead ∧ σ' 13 = .inl (cI, 49924, .inl (zA R_pa_bytes)) ∧ ∀ i : Nat, i ≠ 12 → i ≠ 13 → σ' i = σ0 i)) 0 0 (zFr ad N sz) := by
  refine zMet hI (plainFor_of_name (by decide)) (Nat.le_of_ble_eq_true rfl) ⟨rfl, rfl⟩ ?_
  intro p e s m args below meth c Q hx hb hr hlocks hml hown hts hK hsz hQ hH hA ls hl
  subst hsz
  have hk_pa : 12 < N := by omega
  have hk_pa_bytes : 13 < N := by omega
  have hl : lv_has ls 4 [(0, .ref (ad 12)), (1, .int (zI p1)), (2, .int (zI p2)), (3, .int (zI p3))] := hl
  have hbg : ∀ i : Nat, i ≠ 12 → i ≠ 13 → σ0 i = σ0 i := fun _ _ _ => rfl
  unfold f_X2_putCommand at hf
  refine lv_aload_n hx hb dX2_putCommand_0 rfl (lv_at hl 0 rfl) ?_
  refine zget hx hb inlX2 rfl 2 rfl zk_t1_99 hts hown hK hH hk_pa h_pa rfl dX2_putCommand_1 ?_
  obtain ⟨k1, hf⟩ := zck_some hf
  refine lz_if_ne (tgt := 31) hx hb k1 dX2_putCommand_4 (by decide) (fun c2 => ?_) (fun c2 => ?_)
  · replace hf := (if_neg c2).symm.trans hf
    refine lv_aload_n hx hb dX2_putCommand_31 rfl (lv_at hl 0 rfl) ?_
    refine lv_iload_n hx hb dX2_putCommand_32 rfl (lv_at hl 1 rfl) ?_
    obtain ⟨a3, u4, k5, hf⟩ := zb2_some hf
    refine zcVv (C := RX2) (As := [.int (zI p1)]) (rest := []) hx hb hml hown hts hl.1 hK hH hA (c_X2_putByte hI hN  h_pa h_pa_bytes k5) zk_t3_225 zk_t3_227 zk_s2_9 zk_t1_4 zk_t3_228 hd_X2_putByte rfl ⟨rfl, rfl, Nat.le_of_ble_eq_true rfl, Nat.le_of_ble_eq_true rfl⟩ ⟨Nat.zero_le _, Nat.zero_le _⟩ hk_pa h_pa rfl rfl rfl (Nat.le_of_ble_eq_true rfl) dX2_putCommand_33 (fun σ6 Hσ6 lσ6 hp hH => ?_)
    obtain ⟨h_pa, h_pa_bytes, hn⟩ := hp
    have hbg : ∀ i : Nat, i ≠ 12 → i ≠ 13 → σ6 i = σ0 i := fun i a0 a1 => (hn i a0 a1).trans (hbg i a0 a1)
    refine lv_aload_n hx hb dX2_putCommand_36 rfl (lv_at hl 0 rfl) ?_
    refine lv_iload_n hx hb dX2_putCommand_37 rfl (lv_at hl 2 rfl) ?_
    refine lv_sipush (v := zI 128) hx hb dX2_putCommand_38 (by decide +kernel) ?_
    refine lz_iadd hx hb dX2_putCommand_41 ?_
    obtain ⟨a7, u8, k9, hf⟩ := zb2_some hf
    refine zcVv (C := RX2) (As := [.int (zI (p2 + 128))]) (rest := []) hx hb hml hown hts hl.1 hK hH hA (c_X2_putByte hI hN  h_pa h_pa_bytes k9) zk_t3_225 zk_t3_227 zk_s2_9 zk_t1_4 zk_t3_228 hd_X2_putByte rfl ⟨rfl, rfl, Nat.le_of_ble_eq_true rfl, Nat.le_of_ble_eq_true rfl⟩ ⟨Nat.zero_le _, Nat.zero_le _⟩ hk_pa h_pa rfl rfl rfl (Nat.le_of_ble_eq_true rfl) dX2_putCommand_42 (fun σ10 Hσ10 lσ10 hp hH => ?_)
    obtain ⟨h_pa, h_pa_bytes, hn⟩ := hp
    have hbg : ∀ i : Nat, i ≠ 12 → i ≠ 13 → σ10 i = σ0 i := fun i a0 a1 => (hn i a0 a1).trans (hbg i a0 a1)
    refine lv_aload_n hx hb dX2_putCommand_45 rfl (lv_at hl 0 rfl) ?_
    refine lv_iload_n hx hb dX2_putCommand_46 rfl (lv_at hl 3 rfl) ?_
    refine lv_sipush (v := zI 128) hx hb dX2_putCommand_47 (by decide +kernel) ?_
    refine lz_iadd hx hb dX2_putCommand_50 ?_
    obtain ⟨a11, u12, k13, hf⟩ := zb2_some hf
    refine zcVv (C := RX2) (As := [.int (zI (p3 + 128))]) (rest := []) hx hb hml hown hts hl.1 hK hH hA (c_X2_putByte hI hN  h_pa h_pa_bytes k13) zk_t3_225 zk_t3_227 zk_s2_9 zk_t1_4 zk_t3_228 hd_X2_putByte rfl ⟨rfl, rfl, Nat.le_of_ble_eq_true rfl, Nat.le_of_ble_eq_true rfl⟩ ⟨Nat.zero_le _, Nat.zero_le _⟩ hk_pa h_pa rfl rfl rfl (Nat.le_of_ble_eq_true rfl) dX2_putCommand_51 (fun σ14 Hσ14 lσ14 hp hH => ?_)
    obtain ⟨h_pa, h_pa_bytes, hn⟩ := hp
    have hbg : ∀ i : Nat, i ≠ 12 → i ≠ 13 → σ14 i = σ0 i := fun i a0 a1 => (hn i a0 a1).trans (hbg i a0 a1)
    cases hf
    exact zretv hx hb hr hlocks hQ hH ⟨h_pa, h_pa_bytes, hbg⟩ dX2_putCommand_54
  · replace hf := (if_pos c2).symm.trans hf
    refine lv_aload_n hx hb dX2_putCommand_7 rfl (lv_at hl 0 rfl) ?_
    refine lv_bipush (v := zI 32) hx hb dX2_putCommand_8 (by decide +kernel) ?_
    refine lv_iload_n hx hb dX2_putCommand_10 rfl (lv_at hl 1 rfl) ?_
    refine lz_imul hx hb dX2_putCommand_11 ?_
    refine lv_iload_n hx hb dX2_putCommand_12 rfl (lv_at hl 2 rfl) ?_
    refine lz_iadd hx hb dX2_putCommand_13 ?_
    refine lv_bipush (v := zI 16) hx hb dX2_putCommand_14 (by decide +kernel) ?_
    refine lz_iadd hx hb dX2_putCommand_16 ?_
    obtain ⟨a15, u16, k17, hf⟩ := zb2_some hf
    refine zcVv (C := RX2) (As := [.int (zI (((32 * p1) + p2) + 16))]) (rest := []) hx hb hml hown hts hl.1 hK hH hA (c_X2_putByte hI hN  h_pa h_pa_bytes k17) zk_t3_225 zk_t3_227 zk_s2_9 zk_t1_4 zk_t3_228 hd_X2_putByte rfl ⟨rfl, rfl, Nat.le_of_ble_eq_true rfl, Nat.le_of_ble_eq_true rfl⟩ ⟨Nat.zero_le _, Nat.zero_le _⟩ hk_pa h_pa rfl rfl rfl (Nat.le_of_ble_eq_true rfl) dX2_putCommand_17 (fun σ18 Hσ18 lσ18 hp hH => ?_)
    obtain ⟨h_pa, h_pa_bytes, hn⟩ := hp
    have hbg : ∀ i : Nat, i ≠ 12 → i ≠ 13 → σ18 i = σ0 i := fun i a0 a1 => (hn i a0 a1).trans (hbg i a0 a1)
    refine lv_aload_n hx hb dX2_putCommand_20 rfl (lv_at hl 0 rfl) ?_
    refine lv_iload_n hx hb dX2_putCommand_21 rfl (lv_at hl 3 rfl) ?_
    refine lv_bipush (v := zI 16) hx hb dX2_putCommand_22 (by decide +kernel) ?_
    refine lz_iadd hx hb dX2_putCommand_24 ?_
    obtain ⟨a19, u20, k21, hf⟩ := zb2_some hf
    refine zcVv (C := RX2) (As := [.int (zI (p3 + 16))]) (rest := []) hx hb hml hown hts hl.1 hK hH hA (c_X2_putByte hI hN  h_pa h_pa_bytes k21) zk_t3_225 zk_t3_227 zk_s2_9 zk_t1_4 zk_t3_228 hd_X2_putByte rfl ⟨rfl, rfl, Nat.le_of_ble_eq_true rfl, Nat.le_of_ble_eq_true rfl⟩ ⟨Nat.zero_le _, Nat.zero_le _⟩ hk_pa h_pa rfl rfl rfl (Nat.le_of_ble_eq_true rfl) dX2_putCommand_25 (fun σ22 Hσ22 lσ22 hp hH => ?_)
    obtain ⟨h_pa, h_pa_bytes, hn⟩ := hp
    have hbg : ∀ i : Nat, i ≠ 12 → i ≠ 13 → σ22 i = σ0 i := fun i a0 a1 => (hn i a0 a1).trans (hbg i a0 a1)
    refine lv_goto (tgt := 54) hx hb dX2_putCommand_28 (by decide) ?_
    cases hf
    exact zretv hx hb hr hlocks hQ hH ⟨h_pa, h_pa_bytes, hbg⟩ dX2_putCommand_54
abbrev rmX2_putWhole : Room := { frames := 2, cells := 0, slots := 0, locals := 45 }
theorem hd_X2_putWhole : yX2_putWhole.cls = RX2 ∧ yX2_putWhole.cls ≠ "java/lang/invoke/MethodHandle" ∧ yX2_putWhole.cls ≠ "java/lang/invoke/VarHandle" ∧ (parseMethodDescriptor yX2_putWhole.desc).map (fun d => d.parameters.length) = some 3 := by decide +kernel
set_option maxHeartbeats 4000000 in
set_option maxRecDepth 100000 in
theorem c_X2_putWhole {l : Launch} {D : va_G} {cI cZ cF cL cD : ClassId} {ad : Nat → Nat} {N : Nat} (hI : ∀ i j, i < N → j < N → ad i = ad j → i = j) (hN : 19 ≤ N) {σ0 : Nat → va_E} {sz : Nat} {pa_bytes : Int → Int} {pa_size : Int} {pa_format : Int} {pa_faultPlace : Int} {pa_stitchesRead : Int} {p1 : Int} {p2 : Int} {p3 : Int} {R_pa_bytes : Int → Int} {R_pa_size : Int} (h_pa : σ0 12 = oC_pa ad pa_size pa_format pa_faultPlace pa_stitchesRead) (h_pa_bytes : σ0 13 = .inl (cI, 49924, .inl (zA pa_bytes))) (hf : f_X2_putWhole pa_bytes pa_size pa_format p1 p2 p3 = some (R_pa_bytes, R_pa_size)) :
    Met l yX2_putWhole (Cond.code yX2_putWhole cX2_putWhole 10 none :: wsL_law) rmX2_putWhole (zPre D ad N (zT cI cZ cF cL cD) σ0 sz [.ref (ad 12), .int (zI p1), .int (zI p2), .int (zI p3)]) (zQv D ad N sz (fun σ' => σ' 12 = oC_pa ad R_pa_size pa_format pa_faultPlace pa_stitchesRead ∧ σ' 13 = .inl (cI, 49924, .inl (zA R_pa_bytes)) ∧ ∀ i : Nat, i ≠ 12 → i ≠ 13 → σ' i = σ0 i)) 0 0 (zFr ad N sz) := by
  refine zMet hI (plainFor_of_name (by decide)) (Nat.le_of_ble_eq_true rfl) ⟨rfl, rfl⟩ ?_
  intro p e s m args below meth c Q hx hb hr hlocks hml hown hts hK hsz hQ hH hA ls hl
  subst hsz
  have hk_pa : 12 < N := by omega
  have hk_pa_bytes : 13 < N := by omega
  have hl : lv_has ls 10 [(0, .ref (ad 12)), (1, .int (zI p1)), (2, .int (zI p2)), (3, .int (zI p3))] := hl
  have hbg : ∀ i : Nat, i ≠ 12 → i ≠ 13 → σ0 i = σ0 i := fun _ _ _ => rfl
  have L36 : ∀ (x2 : Int) (x3 : Int) (x4 : Int)  (n : Nat) (x5 : Int) (x6 : Int) (x7 : Int) (pa_bytes : Int → Int) (pa_size : Int) (x5' : Int) (x6' : Int) (x7' : Int) (pa_bytes' : Int → Int) (pa_size' : Int), zlp (fun z => f_X2_putWhole_L36 pa_format x2 x3 x4 z.1 z.2.1 z.2.2.1 z.2.2.2.1 z.2.2.2.2) n (x5, x6, x7, pa_bytes, pa_size) = some (x5', x6', x7', pa_bytes', pa_size') → ∀ (σ : Nat → va_E) (H : Heap) (locs : List Loc) (hH : zH D ad N (zFr ad N s.heap.size) s.heap σ H locs) (h_pa : σ 12 = oC_pa ad pa_size pa_format pa_faultPlace pa_stitchesRead) (h_pa_bytes : σ 13 = .inl (cI, 49924, .inl (zA pa_bytes))) (hbg : ∀ i : Nat, i ≠ 12 → i ≠ 13 → σ i = σ0 i) (ls : Array Slot) (hl : lv_has ls 10 [(0, .ref (ad 12)), (2, .int (zI x2)), (3, .int (zI x3)), (4, .int (zI x4)), (5, .int (zI x5)), (6, .int (zI x6)), (7, .int (zI x7))]), (∀ (σ : Nat → va_E) (H : Heap) (locs : List Loc) (hH : zH D ad N (zFr ad N s.heap.size) s.heap σ H locs) (h_pa : σ 12 = oC_pa ad (pa_size') pa_format pa_faultPlace pa_stitchesRead) (h_pa_bytes : σ 13 = .inl (cI, 49924, .inl (zA (pa_bytes')))) (hbg : ∀ i : Nat, i ≠ 12 → i ≠ 13 → σ i = σ0 i) (ls : Array Slot) (hl : lv_has ls 10 []), W p l e rmX2_putWhole s m args below meth c H locs 0 0 Q (F0 m 94 ls [])) → W p l e rmX2_putWhole s m args below meth c H locs 0 0 Q (F0 m 36 ls []) := by
    intro x2 x3 x4 n
    induction n with
    | zero => intro x5 x6 x7 pa_bytes pa_size x5' x6' x7' pa_bytes' pa_size' hz; exact (zlp_0 hz).elim
    | succ n ih =>
      intro x5 x6 x7 pa_bytes pa_size x5' x6' x7' pa_bytes' pa_size' hz σ H locs hH h_pa h_pa_bytes hbg ls hl kx
      obtain ⟨nx, hf, hnx⟩ := zlp_some hz
      have hf : f_X2_putWhole_L36 pa_format x2 x3 x4 x5 x6 x7 pa_bytes pa_size = some nx := hf
      unfold f_X2_putWhole_L36 at hf
      refine lv_iload hx hb dX2_putWhole_36 (lv_at hl 6 rfl) ?_
      refine lv_iload hx hb dX2_putWhole_38 (lv_at hl 3 rfl) ?_
      obtain ⟨k1, hf⟩ := zck_some hf
      refine lz_icmp_gt (tgt := 94) hx hb k1 dX2_putWhole_40 (by decide) (fun c2 => ?_) (fun c2 => ?_)
      · replace hf := (if_pos c2).symm.trans hf
        cases hf
        cases hnx
        exact kx _ _ _ hH h_pa h_pa_bytes hbg _ (lv_sub hl [] rfl)
      · replace hf := (if_neg c2).symm.trans hf
        refine lv_iconst (v := zI 0) hx hb dX2_putWhole_43 (by decide +kernel) ?_
        refine lv_iload_n hx hb dX2_putWhole_44 rfl (lv_at hl 1 rfl) ?_
        refine lv_iload hx hb dX2_putWhole_45 (lv_at hl 6 rfl) ?_
        refine lv_iload hx hb dX2_putWhole_47 (lv_at hl 3 rfl) ?_
        obtain ⟨r3, k4, hf⟩ := zb1_some hf
        refine zcNi (As := [.int (zI 0), .int (zI x2), .int (zI x7), .int (zI x4)]) (rest := []) hx hb hml hown hts hl.1 hK hH hA (c_X6_placeOf hI hN   k4) (host := RX6) (List.mem_of_getElem? (i := 15) rfl) zk_t1_217 zk_t1_1 zk_t1_218 hd_X6_placeOf rfl ⟨rfl, rfl, Nat.le_of_ble_eq_true rfl, Nat.le_of_ble_eq_true rfl⟩ ⟨Nat.zero_le _, Nat.zero_le _⟩ rfl (Nat.le_of_ble_eq_true rfl) dX2_putWhole_49 (fun q6 σ5 Hσ5 lσ5 hp hH => ?_)
        obtain ⟨hr1, hs1⟩ := hp; subst hr1; rw [hs1] at hH
        refine lv_istore (lv' := [(8, .int (zI r3)), (0, .ref (ad 12)), (2, .int (zI x2)), (3, .int (zI x3)), (4, .int (zI x4)), (5, .int (zI x5)), (6, .int (zI x6)), (7, .int (zI x7))]) hx hb dX2_putWhole_52 hl (by decide) rfl (fun ls hl => ?_)
        refine lv_iconst (v := zI 0) hx hb dX2_putWhole_54 (by decide +kernel) ?_
        refine lv_iload_n hx hb dX2_putWhole_55 rfl (lv_at hl 3 rfl) ?_
        refine lv_iload hx hb dX2_putWhole_56 (lv_at hl 7 rfl) ?_
        refine lv_iload hx hb dX2_putWhole_58 (lv_at hl 4 rfl) ?_
        obtain ⟨r7, k8, hf⟩ := zb1_some hf
        refine zcNi (As := [.int (zI 0), .int (zI x3), .int (zI x7), .int (zI x4)]) (rest := []) hx hb hml hown hts hl.1 hK hH hA (c_X6_placeOf hI hN   k8) (host := RX6) (List.mem_of_getElem? (i := 15) rfl) zk_t1_217 zk_t1_1 zk_t1_218 hd_X6_placeOf rfl ⟨rfl, rfl, Nat.le_of_ble_eq_true rfl, Nat.le_of_ble_eq_true rfl⟩ ⟨Nat.zero_le _, Nat.zero_le _⟩ rfl (Nat.le_of_ble_eq_true rfl) dX2_putWhole_60 (fun q10 σ9 Hσ9 lσ9 hp hH => ?_)
        obtain ⟨hr1, hs1⟩ := hp; subst hr1; rw [hs1] at hH
        refine lv_istore (lv' := [(9, .int (zI r7)), (8, .int (zI r3)), (0, .ref (ad 12)), (2, .int (zI x2)), (3, .int (zI x3)), (4, .int (zI x4)), (5, .int (zI x5)), (6, .int (zI x6)), (7, .int (zI x7))]) hx hb dX2_putWhole_63 hl (by decide) rfl (fun ls hl => ?_)
        refine lv_aload_n hx hb dX2_putWhole_65 rfl (lv_at hl 2 rfl) ?_
        refine lv_iconst (v := zI 1) hx hb dX2_putWhole_66 (by decide +kernel) ?_
        refine lv_iload hx hb dX2_putWhole_67 (lv_at hl 1 rfl) ?_
        refine lv_iload hx hb dX2_putWhole_69 (lv_at hl 6 rfl) ?_
        refine lz_isub hx hb dX2_putWhole_71 ?_
        refine lv_iload hx hb dX2_putWhole_72 (lv_at hl 0 rfl) ?_
        refine lv_iload hx hb dX2_putWhole_74 (lv_at hl 7 rfl) ?_
        refine lz_isub hx hb dX2_putWhole_76 ?_
        obtain ⟨a11, u12, k13, hf⟩ := zb2_some hf
        refine zcVv (C := RX2) (As := [.int (zI 1), .int (zI (r3 - x5)), .int (zI (r7 - x6))]) (rest := []) hx hb hml hown hts hl.1 hK hH hA (c_X2_putCommand hI hN  h_pa h_pa_bytes k13) zk_t3_221 zk_t3_223 zk_s2_8 zk_t1_4 zk_t3_224 hd_X2_putCommand rfl ⟨rfl, rfl, Nat.le_of_ble_eq_true rfl, Nat.le_of_ble_eq_true rfl⟩ ⟨Nat.zero_le _, Nat.zero_le _⟩ hk_pa h_pa rfl rfl rfl (Nat.le_of_ble_eq_true rfl) dX2_putWhole_77 (fun σ14 Hσ14 lσ14 hp hH => ?_)
        obtain ⟨h_pa, h_pa_bytes, hn⟩ := hp
        have hbg : ∀ i : Nat, i ≠ 12 → i ≠ 13 → σ14 i = σ0 i := fun i a0 a1 => (hn i a0 a1).trans (hbg i a0 a1)
        refine lv_iload hx hb dX2_putWhole_80 (lv_at hl 1 rfl) ?_
        refine lv_istore (lv' := [(5, .int (zI r3)), (9, .int (zI r7)), (8, .int (zI r3)), (0, .ref (ad 12)), (2, .int (zI x2)), (3, .int (zI x3)), (4, .int (zI x4)), (6, .int (zI x6)), (7, .int (zI x7))]) hx hb dX2_putWhole_82 hl (by decide) rfl (fun ls hl => ?_)
        refine lv_iload hx hb dX2_putWhole_84 (lv_at hl 1 rfl) ?_
        refine lv_istore (lv' := [(6, .int (zI r7)), (5, .int (zI r3)), (9, .int (zI r7)), (8, .int (zI r3)), (0, .ref (ad 12)), (2, .int (zI x2)), (3, .int (zI x3)), (4, .int (zI x4)), (7, .int (zI x7))]) hx hb dX2_putWhole_86 hl (by decide) rfl (fun ls hl => ?_)
        refine lz_iinc (lv' := [(7, .int (zI (x7 + 1))), (6, .int (zI r7)), (5, .int (zI r3)), (9, .int (zI r7)), (8, .int (zI r3)), (0, .ref (ad 12)), (2, .int (zI x2)), (3, .int (zI x3)), (4, .int (zI x4))]) hx hb dX2_putWhole_88 hl (j := 8) rfl (by decide) rfl (fun ls hl => ?_)
        refine lv_goto (tgt := 36) hx hb dX2_putWhole_91 (by decide) ?_
        cases hf
        exact ih r3 r7 (x7 + 1) a11 u12 _ _ _ _ _ hnx _ _ _ hH h_pa h_pa_bytes hbg _ (lv_sub hl [5, 6, 7, 8, 2, 1, 0] rfl) kx
  unfold f_X2_putWhole at hf
  refine lv_iload_n hx hb dX2_putWhole_0 rfl (lv_at hl 1 rfl) ?_
  refine lv_iconst (v := zI 1) hx hb dX2_putWhole_1 (by decide +kernel) ?_
  obtain ⟨k15, hf⟩ := zck_some hf
  refine lz_icmp_eq (tgt := 13) hx hb ⟨k15, by decide⟩ dX2_putWhole_2 (by decide) (fun c16 => ?_) (fun c16 => ?_)
  · replace hf := (if_pos c16).symm.trans hf
    refine lv_iload_n hx hb dX2_putWhole_13 rfl (lv_at hl 2 rfl) ?_
    refine lv_iload_n hx hb dX2_putWhole_14 rfl (lv_at hl 3 rfl) ?_
    obtain ⟨r17, k18, hf⟩ := zb1_some hf
    refine zcNi (As := [.int (zI p2), .int (zI p3)]) (rest := []) hx hb hml hown hts hl.1 hK hH hA (c_X6_greaterDifference hI hN   k18) (host := RX6) (List.mem_of_getElem? (i := 13) rfl) zk_t1_207 zk_t1_1 zk_t1_208 hd_X6_greaterDifference rfl ⟨rfl, rfl, Nat.le_of_ble_eq_true rfl, Nat.le_of_ble_eq_true rfl⟩ ⟨Nat.zero_le _, Nat.zero_le _⟩ rfl (Nat.le_of_ble_eq_true rfl) dX2_putWhole_15 (fun q20 σ19 Hσ19 lσ19 hp hH => ?_)
    obtain ⟨hr1, hs1⟩ := hp; subst hr1; rw [hs1] at hH
    refine lv_aload_n hx hb dX2_putWhole_18 rfl (lv_at hl 0 rfl) ?_
    obtain ⟨r21, k22, hf⟩ := zb1_some hf
    refine zcVi (C := RX2) (As := []) (rest := [.int (zI r17)]) hx hb hml hown hts hl.1 hK hH hA (c_X2_limit hI hN  h_pa k22) zk_t3_9 zk_t3_11 zk_s2_3 zk_t1_4 zk_t3_12 hd_X2_limit rfl ⟨rfl, rfl, Nat.le_of_ble_eq_true rfl, Nat.le_of_ble_eq_true rfl⟩ ⟨Nat.zero_le _, Nat.zero_le _⟩ hk_pa h_pa rfl rfl rfl (Nat.le_of_ble_eq_true rfl) dX2_putWhole_19 (fun q24 σ23 Hσ23 lσ23 hp hH => ?_)
    obtain ⟨hr1, hs1⟩ := hp; subst hr1; rw [hs1] at hH
    obtain ⟨r25, k26, hf⟩ := zb1_some hf
    refine zcNi (As := [.int (zI r17), .int (zI r21)]) (rest := []) hx hb hml hown hts hl.1 hK hH hA (c_X6_roundedUp hI hN   k26) (host := RX6) (List.mem_of_getElem? (i := 14) rfl) zk_t1_239 zk_t1_1 zk_t2_0 hd_X6_roundedUp rfl ⟨rfl, rfl, Nat.le_of_ble_eq_true rfl, Nat.le_of_ble_eq_true rfl⟩ ⟨Nat.zero_le _, Nat.zero_le _⟩ rfl (Nat.le_of_ble_eq_true rfl) dX2_putWhole_22 (fun q28 σ27 Hσ27 lσ27 hp hH => ?_)
    obtain ⟨hr1, hs1⟩ := hp; subst hr1; rw [hs1] at hH
    refine lv_istore (lv' := [(4, .int (zI r25)), (0, .ref (ad 12)), (1, .int (zI p1)), (2, .int (zI p2)), (3, .int (zI p3))]) hx hb dX2_putWhole_25 hl (by decide) rfl (fun ls hl => ?_)
    refine lv_iconst (v := zI 0) hx hb dX2_putWhole_27 (by decide +kernel) ?_
    refine lv_istore (lv' := [(5, .int (zI 0)), (4, .int (zI r25)), (0, .ref (ad 12)), (1, .int (zI p1)), (2, .int (zI p2)), (3, .int (zI p3))]) hx hb dX2_putWhole_28 hl (by decide) rfl (fun ls hl => ?_)
    refine lv_iconst (v := zI 0) hx hb dX2_putWhole_30 (by decide +kernel) ?_
    refine lv_istore (lv' := [(6, .int (zI 0)), (5, .int (zI 0)), (4, .int (zI r25)), (0, .ref (ad 12)), (1, .int (zI p1)), (2, .int (zI p2)), (3, .int (zI p3))]) hx hb dX2_putWhole_31 hl (by decide) rfl (fun ls hl => ?_)
    refine lv_iconst (v := zI 1) hx hb dX2_putWhole_33 (by decide +kernel) ?_
    refine lv_istore (lv' := [(7, .int (zI 1)), (6, .int (zI 0)), (5, .int (zI 0)), (4, .int (zI r25)), (0, .ref (ad 12)), (1, .int (zI p1)), (2, .int (zI p2)), (3, .int (zI p3))]) hx hb dX2_putWhole_34 hl (by decide) rfl (fun ls hl => ?_)
    obtain ⟨w30, w31, w32, w33, w34, k29, hf⟩ := zb5_some hf
    refine L36 p2 p3 r25 zFU 0 0 1 pa_bytes pa_size w30 w31 w32 w33 w34 k29 _ _ _ hH h_pa h_pa_bytes hbg _ (lv_sub hl [4, 6, 7, 3, 2, 1, 0] rfl) (fun σ35 Hσ35 lσ35 hH h_pa h_pa_bytes hbg ls hl => ?_)
    cases hf
    exact zretv hx hb hr hlocks hQ hH ⟨h_pa, h_pa_bytes, hbg⟩ dX2_putWhole_94
  · replace hf := (if_neg c16).symm.trans hf
    refine lv_aload_n hx hb dX2_putWhole_5 rfl (lv_at hl 0 rfl) ?_
    refine lv_iload_n hx hb dX2_putWhole_6 rfl (lv_at hl 1 rfl) ?_
    refine lv_iload_n hx hb dX2_putWhole_7 rfl (lv_at hl 2 rfl) ?_
    refine lv_iload_n hx hb dX2_putWhole_8 rfl (lv_at hl 3 rfl) ?_
    obtain ⟨a36, u37, k38, hf⟩ := zb2_some hf
    refine zcVv (C := RX2) (As := [.int (zI p1), .int (zI p2), .int (zI p3)]) (rest := []) hx hb hml hown hts hl.1 hK hH hA (c_X2_putCommand hI hN  h_pa h_pa_bytes k38) zk_t3_221 zk_t3_223 zk_s2_8 zk_t1_4 zk_t3_224 hd_X2_putCommand rfl ⟨rfl, rfl, Nat.le_of_ble_eq_true rfl, Nat.le_of_ble_eq_true rfl⟩ ⟨Nat.zero_le _, Nat.zero_le _⟩ hk_pa h_pa rfl rfl rfl (Nat.le_of_ble_eq_true rfl) dX2_putWhole_9 (fun σ39 Hσ39 lσ39 hp hH => ?_)
    obtain ⟨h_pa, h_pa_bytes, hn⟩ := hp
    have hbg : ∀ i : Nat, i ≠ 12 → i ≠ 13 → σ39 i = σ0 i := fun i a0 a1 => (hn i a0 a1).trans (hbg i a0 a1)
    cases hf
    exact zretv hx hb hr hlocks hQ hH ⟨h_pa, h_pa_bytes, hbg⟩ dX2_putWhole_12
abbrev rmX2_sumAhead : Room := { frames := 0, cells := 0, slots := 0, locals := 0 }
theorem hd_X2_sumAhead : yX2_sumAhead.cls = RX2 ∧ yX2_sumAhead.cls ≠ "java/lang/invoke/MethodHandle" ∧ yX2_sumAhead.cls ≠ "java/lang/invoke/VarHandle" ∧ (parseMethodDescriptor yX2_sumAhead.desc).map (fun d => d.parameters.length) = some 1 := by decide +kernel
set_option maxHeartbeats 4000000 in
set_option maxRecDepth 100000 in
theorem c_X2_sumAhead {l : Launch} {D : va_G} {cI cZ cF cL cD : ClassId} {ad : Nat → Nat} {N : Nat} (hI : ∀ i j, i < N → j < N → ad i = ad j → i = j) (hN : 19 ≤ N) {σ0 : Nat → va_E} {sz : Nat} {pa_bytes : Int → Int} {pa_size : Int} {pa_format : Int} {pa_faultPlace : Int} {pa_stitchesRead : Int} {p1 : Int} {R0 : Int} (h_pa : σ0 12 = oC_pa ad pa_size pa_format pa_faultPlace pa_stitchesRead) (h_pa_bytes : σ0 13 = .inl (cI, 49924, .inl (zA pa_bytes))) (hf : f_X2_sumAhead pa_bytes p1 = some R0) :
    Met l yX2_sumAhead (Cond.code yX2_sumAhead cX2_sumAhead 4 (some .int) :: wsL_law) rmX2_sumAhead (zPre D ad N (zT cI cZ cF cL cD) σ0 sz [.ref (ad 12), .int (zI p1)]) (zQi D ad N sz (fun r σ' => r = zI R0 ∧ σ' = σ0)) 0 0 (zFr ad N sz) := by
  refine zMet hI (plainFor_of_name (by decide)) (Nat.le_of_ble_eq_true rfl) ⟨rfl, rfl⟩ ?_
  intro p e s m args below meth c Q hx hb hr hlocks hml hown hts hK hsz hQ hH hA ls hl
  subst hsz
  have hk_pa : 12 < N := by omega
  have hk_pa_bytes : 13 < N := by omega
  have hl : lv_has ls 4 [(0, .ref (ad 12)), (1, .int (zI p1))] := hl
  have hbg : σ0 = σ0 := rfl
  have L4 : ∀ (x1 : Int)  (n : Nat) (x2 : Int) (x3 : Int) (x2' : Int) (x3' : Int), zlp (fun z => f_X2_sumAhead_L4 pa_bytes x1 z.1 z.2) n (x2, x3) = some (x2', x3') → ∀ (σ : Nat → va_E) (H : Heap) (locs : List Loc) (hH : zH D ad N (zFr ad N s.heap.size) s.heap σ H locs) (h_pa : σ 12 = oC_pa ad pa_size pa_format pa_faultPlace pa_stitchesRead) (h_pa_bytes : σ 13 = .inl (cI, 49924, .inl (zA pa_bytes))) (hbg : σ = σ0) (ls : Array Slot) (hl : lv_has ls 4 [(0, .ref (ad 12)), (1, .int (zI x1)), (2, .int (zI x2)), (3, .int (zI x3))]), (∀ (σ : Nat → va_E) (H : Heap) (locs : List Loc) (hH : zH D ad N (zFr ad N s.heap.size) s.heap σ H locs) (h_pa : σ 12 = oC_pa ad pa_size pa_format pa_faultPlace pa_stitchesRead) (h_pa_bytes : σ 13 = .inl (cI, 49924, .inl (zA pa_bytes))) (hbg : σ = σ0) (ls : Array Slot) (hl : lv_has ls 4 [(2, .int (zI (x2')))]), W p l e rmX2_sumAhead s m args below meth c H locs 0 0 Q (F0 m 33 ls [])) → W p l e rmX2_sumAhead s m args below meth c H locs 0 0 Q (F0 m 4 ls []) := by
    intro x1 n
    induction n with
    | zero => intro x2 x3 x2' x3' hz; exact (zlp_0 hz).elim
    | succ n ih =>
      intro x2 x3 x2' x3' hz σ H locs hH h_pa h_pa_bytes hbg ls hl kx
      obtain ⟨nx, hf, hnx⟩ := zlp_some hz
      have hf : f_X2_sumAhead_L4 pa_bytes x1 x2 x3 = some nx := hf
      unfold f_X2_sumAhead_L4 at hf
      refine lv_iload_n hx hb dX2_sumAhead_4 rfl (lv_at hl 3 rfl) ?_
      refine lv_iload_n hx hb dX2_sumAhead_5 rfl (lv_at hl 1 rfl) ?_
      obtain ⟨k1, hf⟩ := zck_some hf
      refine lz_icmp_ge (tgt := 33) hx hb k1 dX2_sumAhead_6 (by decide) (fun c2 => ?_) (fun c2 => ?_)
      · replace hf := (if_pos c2).symm.trans hf
        cases hf
        cases hnx
        exact kx _ _ _ hH h_pa h_pa_bytes hbg _ (lv_sub hl [2] rfl)
      · replace hf := (if_neg c2).symm.trans hf
        refine lv_iload_n hx hb dX2_sumAhead_9 rfl (lv_at hl 3 rfl) ?_
        refine lv_aload_n hx hb dX2_sumAhead_10 rfl (lv_at hl 0 rfl) ?_
        refine zget hx hb inlX2 rfl 0 rfl zk_t1_95 hts hown hK hH hk_pa h_pa rfl dX2_sumAhead_11 ?_
        refine zalen (z := 49924) hx hb hK hH hk_pa_bytes 0 h_pa_bytes rfl (show Int32.ofNat 49924 = zI 49924 by decide +kernel) dX2_sumAhead_14 ?_
        obtain ⟨k3, hf⟩ := zck_some hf
        refine lz_icmp_ge (tgt := 33) hx hb ⟨k3, by decide⟩ dX2_sumAhead_15 (by decide) (fun c4 => ?_) (fun c4 => ?_)
        · replace hf := (if_pos c4).symm.trans hf
          cases hf
          cases hnx
          exact kx _ _ _ hH h_pa h_pa_bytes hbg _ (lv_sub hl [2] rfl)
        · replace hf := (if_neg c4).symm.trans hf
          refine lv_iload_n hx hb dX2_sumAhead_18 rfl (lv_at hl 2 rfl) ?_
          refine lv_aload_n hx hb dX2_sumAhead_19 rfl (lv_at hl 0 rfl) ?_
          refine zget hx hb inlX2 rfl 0 rfl zk_t1_95 hts hown hK hH hk_pa h_pa rfl dX2_sumAhead_20 ?_
          refine lv_iload_n hx hb dX2_sumAhead_23 rfl (lv_at hl 3 rfl) ?_
          obtain ⟨k5, hf⟩ := zck_some hf
          refine ziald hx hb hK hH hk_pa_bytes 0 h_pa_bytes rfl k5 rfl dX2_sumAhead_24 ?_
          refine lz_iadd hx hb dX2_sumAhead_25 ?_
          obtain ⟨v6, ev6, hf⟩ := zlt_some hf
          refine lz_nm ev6 ?_
          refine lv_istore_n (lv' := [(2, .int (zI v6)), (0, .ref (ad 12)), (1, .int (zI x1)), (3, .int (zI x3))]) hx hb dX2_sumAhead_26 rfl hl (by decide) rfl (fun ls hl => ?_)
          refine lz_iinc (lv' := [(3, .int (zI (x3 + 1))), (2, .int (zI v6)), (0, .ref (ad 12)), (1, .int (zI x1))]) hx hb dX2_sumAhead_27 hl (j := 3) rfl (by decide) rfl (fun ls hl => ?_)
          refine lv_goto (tgt := 4) hx hb dX2_sumAhead_30 (by decide) ?_
          cases hf
          exact ih v6 (x3 + 1) _ _ hnx _ _ _ hH h_pa h_pa_bytes hbg _ (lv_sub hl [2, 3, 1, 0] rfl) kx
  unfold f_X2_sumAhead at hf
  refine lv_iconst (v := zI 0) hx hb dX2_sumAhead_0 (by decide +kernel) ?_
  refine lv_istore_n (lv' := [(2, .int (zI 0)), (0, .ref (ad 12)), (1, .int (zI p1))]) hx hb dX2_sumAhead_1 rfl hl (by decide) rfl (fun ls hl => ?_)
  refine lv_iconst (v := zI 0) hx hb dX2_sumAhead_2 (by decide +kernel) ?_
  refine lv_istore_n (lv' := [(3, .int (zI 0)), (2, .int (zI 0)), (0, .ref (ad 12)), (1, .int (zI p1))]) hx hb dX2_sumAhead_3 rfl hl (by decide) rfl (fun ls hl => ?_)
  obtain ⟨w8, w9, k7, hf⟩ := zb2_some hf
  refine L4 p1 zFU 0 0 w8 w9 k7 _ _ _ hH h_pa h_pa_bytes hbg _ (lv_sub hl [2, 3, 1, 0] rfl) (fun σ10 Hσ10 lσ10 hH h_pa h_pa_bytes hbg ls hl => ?_)
  refine lv_iload_n hx hb dX2_sumAhead_33 rfl (lv_at hl 0 rfl) ?_
  refine lv_sipush (v := zI 256) hx hb dX2_sumAhead_34 (by decide +kernel) ?_
  obtain ⟨k11, hf⟩ := zck_some hf
  refine lz_irem hx hb ⟨⟨k11, by decide⟩, by decide⟩ dX2_sumAhead_37 ?_
  cases hf
  exact zreti hx hb hr hlocks hQ hH ⟨rfl, hbg⟩ dX2_sumAhead_38
abbrev rmX2_take : Room := { frames := 3, cells := 0, slots := 0, locals := 74 }
theorem hd_X2_take : yX2_take.cls = RX2 ∧ yX2_take.cls ≠ "java/lang/invoke/MethodHandle" ∧ yX2_take.cls ≠ "java/lang/invoke/VarHandle" ∧ (parseMethodDescriptor yX2_take.desc).map (fun d => d.parameters.length) = some 2 := by decide +kernel
set_option maxHeartbeats 4000000 in
set_option maxRecDepth 100000 in
theorem c_X2_take {l : Launch} {D : va_G} {cI cZ cF cL cD : ClassId} {ad : Nat → Nat} {N : Nat} (hI : ∀ i j, i < N → j < N → ad i = ad j → i = j) (hN : 19 ≤ N) {σ0 : Nat → va_E} {sz : Nat} {pl_kinds : Int → Int} {pl_differencesX : Int → Int} {pl_differencesY : Int → Int} {pl_owners : Int → Int} {pl_size : Int} {pl_seconds : UInt32} {pl_needleX : Int} {pl_needleY : Int} {pl_colour : Int} {pa_bytes : Int → Int} {pa_size : Int} {pa_format : Int} {pa_faultPlace : Int} {pa_stitchesRead : Int} {p2 : Int} {R_pa_bytes : Int → Int} {R_pa_size : Int} {R_pa_format : Int} (h_pl : σ0 3 = oC_pl ad pl_size pl_seconds pl_needleX pl_needleY pl_colour) (h_pl_kinds : σ0 4 = .inl (cI, 16641, .inl (zA pl_kinds))) (h_pl_differencesX : σ0 5 = .inl (cI, 16641, .inl (zA pl_differencesX))) (h_pl_differencesY : σ0 6 = .inl (cI, 16641, .inl (zA pl_differencesY))) (h_pl_owners : σ0 7 = .inl (cI, 16641, .inl (zA pl_owners))) (h_pa : σ0 12 = oC_pa ad pa_size pa_format pa_faultPlace pa_stitchesRead) (h_pa_bytes : σ0 13 = .inl (cI, 49924, .inl (zA pa_bytes))) (hf : f_X2_take pl_kinds pl_differencesX pl_differencesY pl_owners pl_size pa_bytes pa_size pa_format p2 = some (R_pa_bytes, R_pa_size, R_pa_format)) :
    Met l yX2_take (Cond.code yX2_take cX2_take 4 none :: wsL_law) rmX2_take (zPre D ad N (zT cI cZ cF cL cD) σ0 sz [.ref (ad 12), .ref (ad 3), .int (zI p2)]) (zQv D ad N sz (fun σ' => σ' 12 = oC_pa ad R_pa_size R_pa_format pa_faultPlace pa_stitchesRead ∧ σ' 13 = .inl (cI, 49924, .inl (zA R_pa_bytes)) ∧ ∀ i : Nat, i ≠ 12 → i ≠ 13 → σ' i = σ0 i)) 0 0 (zFr ad N sz) := by
  refine zMet hI (plainFor_of_name (by decide)) (Nat.le_of_ble_eq_true rfl) ⟨rfl, rfl⟩ ?_
  intro p e s m args below meth c Q hx hb hr hlocks hml hown hts hK hsz hQ hH hA ls hl
  subst hsz
  have hk_pl : 3 < N := by omega
  have hk_pl_kinds : 4 < N := by omega
  have hk_pl_differencesX : 5 < N := by omega
  have hk_pl_differencesY : 6 < N := by omega
  have hk_pl_owners : 7 < N := by omega
  have hk_pa : 12 < N := by omega
  have hk_pa_bytes : 13 < N := by omega
  have hl : lv_has ls 4 [(0, .ref (ad 12)), (1, .ref (ad 3)), (2, .int (zI p2))] := hl
  have hbg : ∀ i : Nat, i ≠ 12 → i ≠ 13 → σ0 i = σ0 i := fun _ _ _ => rfl
  have L12 : ∀ (pa_format : Int)  (n : Nat) (x3 : Int) (pa_bytes : Int → Int) (pa_size : Int) (x3' : Int) (pa_bytes' : Int → Int) (pa_size' : Int), zlp (fun z => f_X2_take_L12 pl_kinds pl_differencesX pl_differencesY pl_owners pl_size pa_format z.1 z.2.1 z.2.2) n (x3, pa_bytes, pa_size) = some (x3', pa_bytes', pa_size') → ∀ (σ : Nat → va_E) (H : Heap) (locs : List Loc) (hH : zH D ad N (zFr ad N s.heap.size) s.heap σ H locs) (h_pl : σ 3 = oC_pl ad pl_size pl_seconds pl_needleX pl_needleY pl_colour) (h_pl_kinds : σ 4 = .inl (cI, 16641, .inl (zA pl_kinds))) (h_pl_differencesX : σ 5 = .inl (cI, 16641, .inl (zA pl_differencesX))) (h_pl_differencesY : σ 6 = .inl (cI, 16641, .inl (zA pl_differencesY))) (h_pl_owners : σ 7 = .inl (cI, 16641, .inl (zA pl_owners))) (h_pa : σ 12 = oC_pa ad pa_size pa_format pa_faultPlace pa_stitchesRead) (h_pa_bytes : σ 13 = .inl (cI, 49924, .inl (zA pa_bytes))) (hbg : ∀ i : Nat, i ≠ 12 → i ≠ 13 → σ i = σ0 i) (ls : Array Slot) (hl : lv_has ls 4 [(0, .ref (ad 12)), (1, .ref (ad 3)), (3, .int (zI x3))]), (∀ (σ : Nat → va_E) (H : Heap) (locs : List Loc) (hH : zH D ad N (zFr ad N s.heap.size) s.heap σ H locs) (h_pl : σ 3 = oC_pl ad pl_size pl_seconds pl_needleX pl_needleY pl_colour) (h_pl_kinds : σ 4 = .inl (cI, 16641, .inl (zA pl_kinds))) (h_pl_differencesX : σ 5 = .inl (cI, 16641, .inl (zA pl_differencesX))) (h_pl_differencesY : σ 6 = .inl (cI, 16641, .inl (zA pl_differencesY))) (h_pl_owners : σ 7 = .inl (cI, 16641, .inl (zA pl_owners))) (h_pa : σ 12 = oC_pa ad (pa_size') pa_format pa_faultPlace pa_stitchesRead) (h_pa_bytes : σ 13 = .inl (cI, 49924, .inl (zA (pa_bytes')))) (hbg : ∀ i : Nat, i ≠ 12 → i ≠ 13 → σ i = σ0 i) (ls : Array Slot) (hl : lv_has ls 4 [(0, .ref (ad 12))]), W p l e rmX2_take s m args below meth c H locs 0 0 Q (F0 m 48 ls [])) → W p l e rmX2_take s m args below meth c H locs 0 0 Q (F0 m 12 ls []) := by
    intro pa_format n
    induction n with
    | zero => intro x3 pa_bytes pa_size x3' pa_bytes' pa_size' hz; exact (zlp_0 hz).elim
    | succ n ih =>
      intro x3 pa_bytes pa_size x3' pa_bytes' pa_size' hz σ H locs hH h_pl h_pl_kinds h_pl_differencesX h_pl_differencesY h_pl_owners h_pa h_pa_bytes hbg ls hl kx
      obtain ⟨nx, hf, hnx⟩ := zlp_some hz
      have hf : f_X2_take_L12 pl_kinds pl_differencesX pl_differencesY pl_owners pl_size pa_format x3 pa_bytes pa_size = some nx := hf
      unfold f_X2_take_L12 at hf
      refine lv_iload_n hx hb dX2_take_12 rfl (lv_at hl 2 rfl) ?_
      refine lv_aload_n hx hb dX2_take_13 rfl (lv_at hl 1 rfl) ?_
      refine zget hx hb inlX3 rfl 6 rfl zk_t1_41 hts hown hK hH hk_pl h_pl rfl dX2_take_14 ?_
      obtain ⟨k1, hf⟩ := zck_some hf
      refine lz_icmp_ge (tgt := 48) hx hb k1 dX2_take_17 (by decide) (fun c2 => ?_) (fun c2 => ?_)
      · replace hf := (if_pos c2).symm.trans hf
        cases hf
        cases hnx
        exact kx _ _ _ hH h_pl h_pl_kinds h_pl_differencesX h_pl_differencesY h_pl_owners h_pa h_pa_bytes hbg _ (lv_sub hl [0] rfl)
      · replace hf := (if_neg c2).symm.trans hf
        refine lv_aload_n hx hb dX2_take_20 rfl (lv_at hl 0 rfl) ?_
        refine lv_aload_n hx hb dX2_take_21 rfl (lv_at hl 1 rfl) ?_
        refine lv_iload_n hx hb dX2_take_22 rfl (lv_at hl 2 rfl) ?_
        refine lv_iconst (v := zI 0) hx hb dX2_take_23 (by decide +kernel) ?_
        obtain ⟨r3, k4, hf⟩ := zb1_some hf
        refine zcVi (C := RX3) (As := [.int (zI x3), .int (zI 0)]) (rest := [.ref (ad 12)]) hx hb hml hown hts hl.1 hK hH hA (c_X3_told hI hN  h_pl h_pl_kinds h_pl_differencesX h_pl_differencesY h_pl_owners k4) zk_t3_216 zk_t2_175 zk_t2_176 zk_t1_2 zk_t2_177 hd_X3_told rfl ⟨rfl, rfl, Nat.le_of_ble_eq_true rfl, Nat.le_of_ble_eq_true rfl⟩ ⟨Nat.zero_le _, Nat.zero_le _⟩ hk_pl h_pl rfl rfl rfl (Nat.le_of_ble_eq_true rfl) dX2_take_24 (fun q6 σ5 Hσ5 lσ5 hp hH => ?_)
        obtain ⟨hr1, hs1⟩ := hp; subst hr1; rw [hs1] at hH
        refine lv_aload_n hx hb dX2_take_27 rfl (lv_at hl 1 rfl) ?_
        refine lv_iload_n hx hb dX2_take_28 rfl (lv_at hl 2 rfl) ?_
        refine lv_iconst (v := zI 1) hx hb dX2_take_29 (by decide +kernel) ?_
        obtain ⟨r7, k8, hf⟩ := zb1_some hf
        refine zcVi (C := RX3) (As := [.int (zI x3), .int (zI 1)]) (rest := [.int (zI r3), .ref (ad 12)]) hx hb hml hown hts hl.1 hK hH hA (c_X3_told hI hN  h_pl h_pl_kinds h_pl_differencesX h_pl_differencesY h_pl_owners k8) zk_t3_216 zk_t2_175 zk_t2_176 zk_t1_2 zk_t2_177 hd_X3_told rfl ⟨rfl, rfl, Nat.le_of_ble_eq_true rfl, Nat.le_of_ble_eq_true rfl⟩ ⟨Nat.zero_le _, Nat.zero_le _⟩ hk_pl h_pl rfl rfl rfl (Nat.le_of_ble_eq_true rfl) dX2_take_30 (fun q10 σ9 Hσ9 lσ9 hp hH => ?_)
        obtain ⟨hr1, hs1⟩ := hp; subst hr1; rw [hs1] at hH
        refine lv_aload_n hx hb dX2_take_33 rfl (lv_at hl 1 rfl) ?_
        refine lv_iload_n hx hb dX2_take_34 rfl (lv_at hl 2 rfl) ?_
        refine lv_iconst (v := zI 2) hx hb dX2_take_35 (by decide +kernel) ?_
        obtain ⟨r11, k12, hf⟩ := zb1_some hf
        refine zcVi (C := RX3) (As := [.int (zI x3), .int (zI 2)]) (rest := [.int (zI r7), .int (zI r3), .ref (ad 12)]) hx hb hml hown hts hl.1 hK hH hA (c_X3_told hI hN  h_pl h_pl_kinds h_pl_differencesX h_pl_differencesY h_pl_owners k12) zk_t3_216 zk_t2_175 zk_t2_176 zk_t1_2 zk_t2_177 hd_X3_told rfl ⟨rfl, rfl, Nat.le_of_ble_eq_true rfl, Nat.le_of_ble_eq_true rfl⟩ ⟨Nat.zero_le _, Nat.zero_le _⟩ hk_pl h_pl rfl rfl rfl (Nat.le_of_ble_eq_true rfl) dX2_take_36 (fun q14 σ13 Hσ13 lσ13 hp hH => ?_)
        obtain ⟨hr1, hs1⟩ := hp; subst hr1; rw [hs1] at hH
        obtain ⟨a15, u16, k17, hf⟩ := zb2_some hf
        refine zcVv (C := RX2) (As := [.int (zI r3), .int (zI r7), .int (zI r11)]) (rest := []) hx hb hml hown hts hl.1 hK hH hA (c_X2_putWhole hI hN  h_pa h_pa_bytes k17) zk_t3_217 zk_t3_219 zk_s2_7 zk_t1_4 zk_t3_220 hd_X2_putWhole rfl ⟨rfl, rfl, Nat.le_of_ble_eq_true rfl, Nat.le_of_ble_eq_true rfl⟩ ⟨Nat.zero_le _, Nat.zero_le _⟩ hk_pa h_pa rfl rfl rfl (Nat.le_of_ble_eq_true rfl) dX2_take_39 (fun σ18 Hσ18 lσ18 hp hH => ?_)
        obtain ⟨h_pa, h_pa_bytes, hn⟩ := hp
        have h_pl := (hn 3 (by decide) (by decide)).trans h_pl
        have h_pl_kinds := (hn 4 (by decide) (by decide)).trans h_pl_kinds
        have h_pl_differencesX := (hn 5 (by decide) (by decide)).trans h_pl_differencesX
        have h_pl_differencesY := (hn 6 (by decide) (by decide)).trans h_pl_differencesY
        have h_pl_owners := (hn 7 (by decide) (by decide)).trans h_pl_owners
        have hbg : ∀ i : Nat, i ≠ 12 → i ≠ 13 → σ18 i = σ0 i := fun i a0 a1 => (hn i a0 a1).trans (hbg i a0 a1)
        refine lz_iinc (lv' := [(3, .int (zI (x3 + 1))), (0, .ref (ad 12)), (1, .ref (ad 3))]) hx hb dX2_take_42 hl (j := 2) rfl (by decide) rfl (fun ls hl => ?_)
        refine lv_goto (tgt := 12) hx hb dX2_take_45 (by decide) ?_
        cases hf
        exact ih (x3 + 1) a15 u16 _ _ _ hnx _ _ _ hH h_pl h_pl_kinds h_pl_differencesX h_pl_differencesY h_pl_owners h_pa h_pa_bytes hbg _ (lv_sub hl [1, 2, 0] rfl) kx
  unfold f_X2_take at hf
  refine lv_aload_n hx hb dX2_take_0 rfl (lv_at hl 0 rfl) ?_
  refine lv_iload_n hx hb dX2_take_1 rfl (lv_at hl 2 rfl) ?_
  refine zput hx hb inlX2 tyX2 tyX2_ok nmX2 rfl 2 rfl zk_t1_99 rfl hts hown hK hH hk_pa h_pa rfl rfl rfl dX2_take_2 (fun σ19 Hσ19 lσ19 h_pa hn hH => ?_)
  have h_pa : σ19 12 = oC_pa ad pa_size p2 pa_faultPlace pa_stitchesRead := h_pa
  have h_pl := (hn 3 (by decide)).trans h_pl
  have h_pl_kinds := (hn 4 (by decide)).trans h_pl_kinds
  have h_pl_differencesX := (hn 5 (by decide)).trans h_pl_differencesX
  have h_pl_differencesY := (hn 6 (by decide)).trans h_pl_differencesY
  have h_pl_owners := (hn 7 (by decide)).trans h_pl_owners
  have h_pa_bytes := (hn 13 (by decide)).trans h_pa_bytes
  have hbg : ∀ i : Nat, i ≠ 12 → i ≠ 13 → σ19 i = σ0 i := fun i a0 a1 => (hn i a0).trans (hbg i a0 a1)
  refine lv_aload_n hx hb dX2_take_5 rfl (lv_at hl 0 rfl) ?_
  refine lv_iconst (v := zI 0) hx hb dX2_take_6 (by decide +kernel) ?_
  refine zput hx hb inlX2 tyX2 tyX2_ok nmX2 rfl 1 rfl zk_t1_97 rfl hts hown hK hH hk_pa h_pa rfl rfl rfl dX2_take_7 (fun σ20 Hσ20 lσ20 h_pa hn hH => ?_)
  have h_pa : σ20 12 = oC_pa ad 0 p2 pa_faultPlace pa_stitchesRead := h_pa
  have h_pl := (hn 3 (by decide)).trans h_pl
  have h_pl_kinds := (hn 4 (by decide)).trans h_pl_kinds
  have h_pl_differencesX := (hn 5 (by decide)).trans h_pl_differencesX
  have h_pl_differencesY := (hn 6 (by decide)).trans h_pl_differencesY
  have h_pl_owners := (hn 7 (by decide)).trans h_pl_owners
  have h_pa_bytes := (hn 13 (by decide)).trans h_pa_bytes
  have hbg : ∀ i : Nat, i ≠ 12 → i ≠ 13 → σ20 i = σ0 i := fun i a0 a1 => (hn i a0).trans (hbg i a0 a1)
  refine lv_iconst (v := zI 0) hx hb dX2_take_10 (by decide +kernel) ?_
  refine lv_istore_n (lv' := [(3, .int (zI 0)), (0, .ref (ad 12)), (1, .ref (ad 3)), (2, .int (zI p2))]) hx hb dX2_take_11 rfl hl (by decide) rfl (fun ls hl => ?_)
  obtain ⟨w22, w23, w24, k21, hf⟩ := zb3_some hf
  refine L12 p2 zFU 0 pa_bytes 0 w22 w23 w24 k21 _ _ _ hH h_pl h_pl_kinds h_pl_differencesX h_pl_differencesY h_pl_owners h_pa h_pa_bytes hbg _ (lv_sub hl [1, 2, 0] rfl) (fun σ25 Hσ25 lσ25 hH h_pl h_pl_kinds h_pl_differencesX h_pl_differencesY h_pl_owners h_pa h_pa_bytes hbg ls hl => ?_)
  refine lv_aload_n hx hb dX2_take_48 rfl (lv_at hl 0 rfl) ?_
  refine lv_aload_n hx hb dX2_take_49 rfl (lv_at hl 0 rfl) ?_
  refine lv_aload_n hx hb dX2_take_50 rfl (lv_at hl 0 rfl) ?_
  refine zget hx hb inlX2 rfl 1 rfl zk_t1_97 hts hown hK hH hk_pa h_pa rfl dX2_take_51 ?_
  obtain ⟨r26, k27, hf⟩ := zb1_some hf
  refine zcVi (C := RX2) (As := [.int (zI w24)]) (rest := [.ref (ad 12)]) hx hb hml hown hts hl.1 hK hH hA (c_X2_sumAhead hI hN  h_pa h_pa_bytes k27) zk_t3_17 zk_t3_19 zk_s2_5 zk_t1_4 zk_t3_20 hd_X2_sumAhead rfl ⟨rfl, rfl, Nat.le_of_ble_eq_true rfl, Nat.le_of_ble_eq_true rfl⟩ ⟨Nat.zero_le _, Nat.zero_le _⟩ hk_pa h_pa rfl rfl rfl (Nat.le_of_ble_eq_true rfl) dX2_take_54 (fun q29 σ28 Hσ28 lσ28 hp hH => ?_)
  obtain ⟨hr1, hs1⟩ := hp; subst hr1; rw [hs1] at hH
  obtain ⟨a30, u31, k32, hf⟩ := zb2_some hf
  refine zcVv (C := RX2) (As := [.int (zI r26)]) (rest := []) hx hb hml hown hts hl.1 hK hH hA (c_X2_putByte hI hN  h_pa h_pa_bytes k32) zk_t3_225 zk_t3_227 zk_s2_9 zk_t1_4 zk_t3_228 hd_X2_putByte rfl ⟨rfl, rfl, Nat.le_of_ble_eq_true rfl, Nat.le_of_ble_eq_true rfl⟩ ⟨Nat.zero_le _, Nat.zero_le _⟩ hk_pa h_pa rfl rfl rfl (Nat.le_of_ble_eq_true rfl) dX2_take_57 (fun σ33 Hσ33 lσ33 hp hH => ?_)
  obtain ⟨h_pa, h_pa_bytes, hn⟩ := hp
  have h_pl := (hn 3 (by decide) (by decide)).trans h_pl
  have h_pl_kinds := (hn 4 (by decide) (by decide)).trans h_pl_kinds
  have h_pl_differencesX := (hn 5 (by decide) (by decide)).trans h_pl_differencesX
  have h_pl_differencesY := (hn 6 (by decide) (by decide)).trans h_pl_differencesY
  have h_pl_owners := (hn 7 (by decide) (by decide)).trans h_pl_owners
  have hbg : ∀ i : Nat, i ≠ 12 → i ≠ 13 → σ33 i = σ0 i := fun i a0 a1 => (hn i a0 a1).trans (hbg i a0 a1)
  cases hf
  exact zretv hx hb hr hlocks hQ hH ⟨h_pa, h_pa_bytes, hbg⟩ dX2_take_60
abbrev rmX2_kindAt : Room := { frames := 1, cells := 0, slots := 0, locals := 21 }
theorem hd_X2_kindAt : yX2_kindAt.cls = RX2 ∧ yX2_kindAt.cls ≠ "java/lang/invoke/MethodHandle" ∧ yX2_kindAt.cls ≠ "java/lang/invoke/VarHandle" ∧ (parseMethodDescriptor yX2_kindAt.desc).map (fun d => d.parameters.length) = some 1 := by decide +kernel
set_option maxHeartbeats 4000000 in
set_option maxRecDepth 100000 in
theorem c_X2_kindAt {l : Launch} {D : va_G} {cI cZ cF cL cD : ClassId} {ad : Nat → Nat} {N : Nat} (hI : ∀ i j, i < N → j < N → ad i = ad j → i = j) (hN : 19 ≤ N) {σ0 : Nat → va_E} {sz : Nat} {pa_bytes : Int → Int} {pa_size : Int} {pa_format : Int} {pa_faultPlace : Int} {pa_stitchesRead : Int} {p1 : Int} {R0 : Int} (h_pa : σ0 12 = oC_pa ad pa_size pa_format pa_faultPlace pa_stitchesRead) (h_pa_bytes : σ0 13 = .inl (cI, 49924, .inl (zA pa_bytes))) (hf : f_X2_kindAt pa_bytes pa_size pa_format p1 = some R0) :
    Met l yX2_kindAt (Cond.code yX2_kindAt cX2_kindAt 2 (some .int) :: wsL_law) rmX2_kindAt (zPre D ad N (zT cI cZ cF cL cD) σ0 sz [.ref (ad 12), .int (zI p1)]) (zQi D ad N sz (fun r σ' => r = zI R0 ∧ σ' = σ0)) 0 0 (zFr ad N sz) := by
  refine zMet hI (plainFor_of_name (by decide)) (Nat.le_of_ble_eq_true rfl) ⟨rfl, rfl⟩ ?_
  intro p e s m args below meth c Q hx hb hr hlocks hml hown hts hK hsz hQ hH hA ls hl
  subst hsz
  have hk_pa : 12 < N := by omega
  have hk_pa_bytes : 13 < N := by omega
  have hl : lv_has ls 2 [(0, .ref (ad 12)), (1, .int (zI p1))] := hl
  have hbg : σ0 = σ0 := rfl
  unfold f_X2_kindAt at hf
  refine lv_aload_n hx hb dX2_kindAt_0 rfl (lv_at hl 0 rfl) ?_
  refine lv_iload_n hx hb dX2_kindAt_1 rfl (lv_at hl 1 rfl) ?_
  obtain ⟨r1, k2, hf⟩ := zb1_some hf
  refine zcVi (C := RX2) (As := [.int (zI p1)]) (rest := []) hx hb hml hown hts hl.1 hK hH hA (c_X2_has hI hN  h_pa h_pa_bytes k2) zk_t3_3 zk_t2_209 zk_t2_210 zk_t1_4 zk_t2_211 hd_X2_has rfl ⟨rfl, rfl, Nat.le_of_ble_eq_true rfl, Nat.le_of_ble_eq_true rfl⟩ ⟨Nat.zero_le _, Nat.zero_le _⟩ hk_pa h_pa rfl rfl rfl (Nat.le_of_ble_eq_true rfl) dX2_kindAt_2 (fun q4 σ3 Hσ3 lσ3 hp hH => ?_)
  obtain ⟨hr1, hs1⟩ := hp; subst hr1; rw [hs1] at hH
  obtain ⟨k5, hf⟩ := zck_some hf
  refine lz_if_ne (tgt := 10) hx hb k5 dX2_kindAt_5 (by decide) (fun c6 => ?_) (fun c6 => ?_)
  · replace hf := (if_neg c6).symm.trans hf
    refine lv_aload_n hx hb dX2_kindAt_10 rfl (lv_at hl 0 rfl) ?_
    refine zget hx hb inlX2 rfl 2 rfl zk_t1_99 hts hown hK hH hk_pa h_pa rfl dX2_kindAt_11 ?_
    obtain ⟨k7, hf⟩ := zck_some hf
    refine lz_if_ne (tgt := 29) hx hb k7 dX2_kindAt_14 (by decide) (fun c8 => ?_) (fun c8 => ?_)
    · replace hf := (if_neg c8).symm.trans hf
      refine lv_aload_n hx hb dX2_kindAt_29 rfl (lv_at hl 0 rfl) ?_
      refine zget hx hb inlX2 rfl 0 rfl zk_t1_95 hts hown hK hH hk_pa h_pa rfl dX2_kindAt_30 ?_
      refine lv_iload_n hx hb dX2_kindAt_33 rfl (lv_at hl 1 rfl) ?_
      obtain ⟨k9, hf⟩ := zck_some hf
      refine ziald hx hb hK hH hk_pa_bytes 0 h_pa_bytes rfl k9 rfl dX2_kindAt_34 ?_
      cases hf
      exact zreti hx hb hr hlocks hQ hH ⟨rfl, hbg⟩ dX2_kindAt_35
    · replace hf := (if_pos c8).symm.trans hf
      refine lv_aload_n hx hb dX2_kindAt_17 rfl (lv_at hl 0 rfl) ?_
      refine zget hx hb inlX2 rfl 0 rfl zk_t1_95 hts hown hK hH hk_pa h_pa rfl dX2_kindAt_18 ?_
      refine lv_iload_n hx hb dX2_kindAt_21 rfl (lv_at hl 1 rfl) ?_
      obtain ⟨k10, hf⟩ := zck_some hf
      refine ziald hx hb hK hH hk_pa_bytes 0 h_pa_bytes rfl k10 rfl dX2_kindAt_22 ?_
      refine lv_bipush (v := zI 32) hx hb dX2_kindAt_23 (by decide +kernel) ?_
      obtain ⟨k11, hf⟩ := zck_some hf
      refine lz_idiv hx hb ⟨⟨k11, by decide⟩, by decide⟩ dX2_kindAt_25 ?_
      refine lv_goto (tgt := 35) hx hb dX2_kindAt_26 (by decide) ?_
      cases hf
      exact zreti hx hb hr hlocks hQ hH ⟨rfl, hbg⟩ dX2_kindAt_35
  · replace hf := (if_pos c6).symm.trans hf
    refine lv_iconst (v := zI 4) hx hb dX2_kindAt_8 (by decide +kernel) ?_
    cases hf
    exact zreti hx hb hr hlocks hQ hH ⟨rfl, hbg⟩ dX2_kindAt_9
abbrev rmX2_differenceAt : Room := { frames := 1, cells := 0, slots := 0, locals := 21 }
theorem hd_X2_differenceAt : yX2_differenceAt.cls = RX2 ∧ yX2_differenceAt.cls ≠ "java/lang/invoke/MethodHandle" ∧ yX2_differenceAt.cls ≠ "java/lang/invoke/VarHandle" ∧ (parseMethodDescriptor yX2_differenceAt.desc).map (fun d => d.parameters.length) = some 2 := by decide +kernel
set_option maxHeartbeats 4000000 in
set_option maxRecDepth 100000 in
theorem c_X2_differenceAt {l : Launch} {D : va_G} {cI cZ cF cL cD : ClassId} {ad : Nat → Nat} {N : Nat} (hI : ∀ i j, i < N → j < N → ad i = ad j → i = j) (hN : 19 ≤ N) {σ0 : Nat → va_E} {sz : Nat} {pa_bytes : Int → Int} {pa_size : Int} {pa_format : Int} {pa_faultPlace : Int} {pa_stitchesRead : Int} {p1 : Int} {p2 : Int} {R0 : Int} (h_pa : σ0 12 = oC_pa ad pa_size pa_format pa_faultPlace pa_stitchesRead) (h_pa_bytes : σ0 13 = .inl (cI, 49924, .inl (zA pa_bytes))) (hf : f_X2_differenceAt pa_bytes pa_size pa_format p1 p2 = some R0) :
    Met l yX2_differenceAt (Cond.code yX2_differenceAt cX2_differenceAt 3 (some .int) :: wsL_law) rmX2_differenceAt (zPre D ad N (zT cI cZ cF cL cD) σ0 sz [.ref (ad 12), .int (zI p1), .int (zI p2)]) (zQi D ad N sz (fun r σ' => r = zI R0 ∧ σ' = σ0)) 0 0 (zFr ad N sz) := by
  refine zMet hI (plainFor_of_name (by decide)) (Nat.le_of_ble_eq_true rfl) ⟨rfl, rfl⟩ ?_
  intro p e s m args below meth c Q hx hb hr hlocks hml hown hts hK hsz hQ hH hA ls hl
  subst hsz
  have hk_pa : 12 < N := by omega
  have hk_pa_bytes : 13 < N := by omega
  have hl : lv_has ls 3 [(0, .ref (ad 12)), (1, .int (zI p1)), (2, .int (zI p2))] := hl
  have hbg : σ0 = σ0 := rfl
  unfold f_X2_differenceAt at hf
  refine lv_aload_n hx hb dX2_differenceAt_0 rfl (lv_at hl 0 rfl) ?_
  refine lv_iload_n hx hb dX2_differenceAt_1 rfl (lv_at hl 1 rfl) ?_
  obtain ⟨r1, k2, hf⟩ := zb1_some hf
  refine zcVi (C := RX2) (As := [.int (zI p1)]) (rest := []) hx hb hml hown hts hl.1 hK hH hA (c_X2_has hI hN  h_pa h_pa_bytes k2) zk_t3_3 zk_t2_209 zk_t2_210 zk_t1_4 zk_t2_211 hd_X2_has rfl ⟨rfl, rfl, Nat.le_of_ble_eq_true rfl, Nat.le_of_ble_eq_true rfl⟩ ⟨Nat.zero_le _, Nat.zero_le _⟩ hk_pa h_pa rfl rfl rfl (Nat.le_of_ble_eq_true rfl) dX2_differenceAt_2 (fun q4 σ3 Hσ3 lσ3 hp hH => ?_)
  obtain ⟨hr1, hs1⟩ := hp; subst hr1; rw [hs1] at hH
  obtain ⟨k5, hf⟩ := zck_some hf
  refine lz_if_ne (tgt := 10) hx hb k5 dX2_differenceAt_5 (by decide) (fun c6 => ?_) (fun c6 => ?_)
  · replace hf := (if_neg c6).symm.trans hf
    refine lv_aload_n hx hb dX2_differenceAt_10 rfl (lv_at hl 0 rfl) ?_
    refine zget hx hb inlX2 rfl 2 rfl zk_t1_99 hts hown hK hH hk_pa h_pa rfl dX2_differenceAt_11 ?_
    obtain ⟨k7, hf⟩ := zck_some hf
    refine lz_if_ne (tgt := 46) hx hb k7 dX2_differenceAt_14 (by decide) (fun c8 => ?_) (fun c8 => ?_)
    · replace hf := (if_neg c8).symm.trans hf
      refine lv_iload_n hx hb dX2_differenceAt_46 rfl (lv_at hl 2 rfl) ?_
      obtain ⟨k9, hf⟩ := zck_some hf
      refine lz_if_ne (tgt := 54) hx hb k9 dX2_differenceAt_47 (by decide) (fun c10 => ?_) (fun c10 => ?_)
      · replace hf := (if_neg c10).symm.trans hf
        refine lv_aload_n hx hb dX2_differenceAt_54 rfl (lv_at hl 0 rfl) ?_
        refine zget hx hb inlX2 rfl 0 rfl zk_t1_95 hts hown hK hH hk_pa h_pa rfl dX2_differenceAt_55 ?_
        refine lv_iload_n hx hb dX2_differenceAt_58 rfl (lv_at hl 1 rfl) ?_
        obtain ⟨k11, hf⟩ := zck_some hf
        refine ziald hx hb hK hH hk_pa_bytes 0 h_pa_bytes rfl k11 rfl dX2_differenceAt_59 ?_
        refine lv_sipush (v := zI 128) hx hb dX2_differenceAt_60 (by decide +kernel) ?_
        refine lz_isub hx hb dX2_differenceAt_63 ?_
        cases hf
        exact zreti hx hb hr hlocks hQ hH ⟨rfl, hbg⟩ dX2_differenceAt_64
      · replace hf := (if_pos c10).symm.trans hf
        refine lv_iconst (v := zI 0) hx hb dX2_differenceAt_50 (by decide +kernel) ?_
        refine lv_goto (tgt := 64) hx hb dX2_differenceAt_51 (by decide) ?_
        cases hf
        exact zreti hx hb hr hlocks hQ hH ⟨rfl, hbg⟩ dX2_differenceAt_64
    · replace hf := (if_pos c8).symm.trans hf
      refine lv_iload_n hx hb dX2_differenceAt_17 rfl (lv_at hl 2 rfl) ?_
      obtain ⟨k12, hf⟩ := zck_some hf
      refine lz_if_ne (tgt := 36) hx hb k12 dX2_differenceAt_18 (by decide) (fun c13 => ?_) (fun c13 => ?_)
      · replace hf := (if_neg c13).symm.trans hf
        refine lv_aload_n hx hb dX2_differenceAt_36 rfl (lv_at hl 0 rfl) ?_
        refine zget hx hb inlX2 rfl 0 rfl zk_t1_95 hts hown hK hH hk_pa h_pa rfl dX2_differenceAt_37 ?_
        refine lv_iload_n hx hb dX2_differenceAt_40 rfl (lv_at hl 1 rfl) ?_
        obtain ⟨k14, hf⟩ := zck_some hf
        refine ziald hx hb hK hH hk_pa_bytes 0 h_pa_bytes rfl k14 rfl dX2_differenceAt_41 ?_
        refine lv_bipush (v := zI 16) hx hb dX2_differenceAt_42 (by decide +kernel) ?_
        refine lz_isub hx hb dX2_differenceAt_44 ?_
        cases hf
        exact zreti hx hb hr hlocks hQ hH ⟨rfl, hbg⟩ dX2_differenceAt_45
      · replace hf := (if_pos c13).symm.trans hf
        refine lv_aload_n hx hb dX2_differenceAt_21 rfl (lv_at hl 0 rfl) ?_
        refine zget hx hb inlX2 rfl 0 rfl zk_t1_95 hts hown hK hH hk_pa h_pa rfl dX2_differenceAt_22 ?_
        refine lv_iload_n hx hb dX2_differenceAt_25 rfl (lv_at hl 1 rfl) ?_
        obtain ⟨k15, hf⟩ := zck_some hf
        refine ziald hx hb hK hH hk_pa_bytes 0 h_pa_bytes rfl k15 rfl dX2_differenceAt_26 ?_
        refine lv_bipush (v := zI 32) hx hb dX2_differenceAt_27 (by decide +kernel) ?_
        obtain ⟨k16, hf⟩ := zck_some hf
        refine lz_irem hx hb ⟨⟨k16, by decide⟩, by decide⟩ dX2_differenceAt_29 ?_
        refine lv_bipush (v := zI 16) hx hb dX2_differenceAt_30 (by decide +kernel) ?_
        refine lz_isub hx hb dX2_differenceAt_32 ?_
        refine lv_goto (tgt := 45) hx hb dX2_differenceAt_33 (by decide) ?_
        cases hf
        exact zreti hx hb hr hlocks hQ hH ⟨rfl, hbg⟩ dX2_differenceAt_45
  · replace hf := (if_pos c6).symm.trans hf
    refine lv_iconst (v := zI 0) hx hb dX2_differenceAt_8 (by decide +kernel) ?_
    cases hf
    exact zreti hx hb hr hlocks hQ hH ⟨rfl, hbg⟩ dX2_differenceAt_9
abbrev rmX2_wrongWithin : Room := { frames := 2, cells := 0, slots := 0, locals := 43 }
theorem hd_X2_wrongWithin : yX2_wrongWithin.cls = RX2 ∧ yX2_wrongWithin.cls ≠ "java/lang/invoke/MethodHandle" ∧ yX2_wrongWithin.cls ≠ "java/lang/invoke/VarHandle" ∧ (parseMethodDescriptor yX2_wrongWithin.desc).map (fun d => d.parameters.length) = some 1 := by decide +kernel
set_option maxHeartbeats 4000000 in
set_option maxRecDepth 100000 in
theorem c_X2_wrongWithin {l : Launch} {D : va_G} {cI cZ cF cL cD : ClassId} {ad : Nat → Nat} {N : Nat} (hI : ∀ i j, i < N → j < N → ad i = ad j → i = j) (hN : 19 ≤ N) {σ0 : Nat → va_E} {sz : Nat} {pa_bytes : Int → Int} {pa_size : Int} {pa_format : Int} {pa_faultPlace : Int} {pa_stitchesRead : Int} {p1 : Int} {R0 : Int} (h_pa : σ0 12 = oC_pa ad pa_size pa_format pa_faultPlace pa_stitchesRead) (h_pa_bytes : σ0 13 = .inl (cI, 49924, .inl (zA pa_bytes))) (hf : f_X2_wrongWithin pa_bytes pa_size pa_format p1 = some R0) :
    Met l yX2_wrongWithin (Cond.code yX2_wrongWithin cX2_wrongWithin 6 (some .int) :: wsL_law) rmX2_wrongWithin (zPre D ad N (zT cI cZ cF cL cD) σ0 sz [.ref (ad 12), .int (zI p1)]) (zQi D ad N sz (fun r σ' => r = zI R0 ∧ σ' = σ0)) 0 0 (zFr ad N sz) := by
  refine zMet hI (plainFor_of_name (by decide)) (Nat.le_of_ble_eq_true rfl) ⟨rfl, rfl⟩ ?_
  intro p e s m args below meth c Q hx hb hr hlocks hml hown hts hK hsz hQ hH hA ls hl
  subst hsz
  have hk_pa : 12 < N := by omega
  have hk_pa_bytes : 13 < N := by omega
  have hl : lv_has ls 6 [(0, .ref (ad 12)), (1, .int (zI p1))] := hl
  have hbg : σ0 = σ0 := rfl
  have L8 : ∀ (x1 : Int) (x2 : Int)  (n : Nat) (x3 : Int) (res : ((Int) ⊕ (Int))), zlp (fun z => f_X2_wrongWithin_L8 pa_bytes pa_size pa_format x1 x2 z) n x3 = some res → ∀ (σ : Nat → va_E) (H : Heap) (locs : List Loc) (hH : zH D ad N (zFr ad N s.heap.size) s.heap σ H locs) (h_pa : σ 12 = oC_pa ad pa_size pa_format pa_faultPlace pa_stitchesRead) (h_pa_bytes : σ 13 = .inl (cI, 49924, .inl (zA pa_bytes))) (hbg : σ = σ0) (ls : Array Slot) (hl : lv_has ls 6 [(0, .ref (ad 12)), (1, .int (zI x1)), (2, .int (zI x2)), (3, .int (zI x3))]), (∀ (x3' : Int), res = .inl x3' → ∀ (σ : Nat → va_E) (H : Heap) (locs : List Loc) (hH : zH D ad N (zFr ad N s.heap.size) s.heap σ H locs) (h_pa : σ 12 = oC_pa ad pa_size pa_format pa_faultPlace pa_stitchesRead) (h_pa_bytes : σ 13 = .inl (cI, 49924, .inl (zA pa_bytes))) (hbg : σ = σ0) (ls : Array Slot) (hl : lv_has ls 6 []), W p l e rmX2_wrongWithin s m args below meth c H locs 0 0 Q (F0 m 80 ls [])) → (∀ b, res = .inr b → some b = some R0) → W p l e rmX2_wrongWithin s m args below meth c H locs 0 0 Q (F0 m 8 ls []) := by
    intro x1 x2 n
    induction n with
    | zero => intro x3 res hz; exact (zlp_0 hz).elim
    | succ n ih =>
      intro x3 res hz σ H locs hH h_pa h_pa_bytes hbg ls hl kx kr
      obtain ⟨nx, hf, hnx⟩ := zlp_some hz
      have hf : f_X2_wrongWithin_L8 pa_bytes pa_size pa_format x1 x2 x3 = some nx := hf
      unfold f_X2_wrongWithin_L8 at hf
      refine lv_iload_n hx hb dX2_wrongWithin_8 rfl (lv_at hl 3 rfl) ?_
      refine lv_aload_n hx hb dX2_wrongWithin_9 rfl (lv_at hl 0 rfl) ?_
      obtain ⟨r1, k2, hf⟩ := zb1_some hf
      refine zcVi (C := RX2) (As := []) (rest := [.int (zI x3)]) hx hb hml hown hts hl.1 hK hH hA (c_X2_bytesOfCommand hI hN  h_pa k2) zk_t2_231 zk_t2_233 zk_s1_15 zk_t1_4 zk_t2_234 hd_X2_bytesOfCommand rfl ⟨rfl, rfl, Nat.le_of_ble_eq_true rfl, Nat.le_of_ble_eq_true rfl⟩ ⟨Nat.zero_le _, Nat.zero_le _⟩ hk_pa h_pa rfl rfl rfl (Nat.le_of_ble_eq_true rfl) dX2_wrongWithin_10 (fun q4 σ3 Hσ3 lσ3 hp hH => ?_)
      obtain ⟨hr1, hs1⟩ := hp; subst hr1; rw [hs1] at hH
      obtain ⟨k5, hf⟩ := zck_some hf
      refine lz_icmp_ge (tgt := 80) hx hb k5 dX2_wrongWithin_13 (by decide) (fun c6 => ?_) (fun c6 => ?_)
      · replace hf := (if_pos c6).symm.trans hf
        cases hf
        exact kx x3 hnx.symm _ _ _ hH h_pa h_pa_bytes hbg _ (lv_sub hl [] rfl)
      · replace hf := (if_neg c6).symm.trans hf
        refine lv_iload_n hx hb dX2_wrongWithin_16 rfl (lv_at hl 1 rfl) ?_
        refine lv_iload_n hx hb dX2_wrongWithin_17 rfl (lv_at hl 3 rfl) ?_
        refine lz_iadd hx hb dX2_wrongWithin_18 ?_
        obtain ⟨v7, ev7, hf⟩ := zlt_some hf
        refine lz_nm ev7 ?_
        refine lv_istore (lv' := [(4, .int (zI v7)), (0, .ref (ad 12)), (1, .int (zI x1)), (2, .int (zI x2)), (3, .int (zI x3))]) hx hb dX2_wrongWithin_19 hl (by decide) rfl (fun ls hl => ?_)
        refine lv_aload_n hx hb dX2_wrongWithin_21 rfl (lv_at hl 1 rfl) ?_
        refine lv_iload hx hb dX2_wrongWithin_22 (lv_at hl 0 rfl) ?_
        obtain ⟨r8, k9, hf⟩ := zb1_some hf
        refine zcVi (C := RX2) (As := [.int (zI v7)]) (rest := []) hx hb hml hown hts hl.1 hK hH hA (c_X2_has hI hN  h_pa h_pa_bytes k9) zk_t3_3 zk_t2_209 zk_t2_210 zk_t1_4 zk_t2_211 hd_X2_has rfl ⟨rfl, rfl, Nat.le_of_ble_eq_true rfl, Nat.le_of_ble_eq_true rfl⟩ ⟨Nat.zero_le _, Nat.zero_le _⟩ hk_pa h_pa rfl rfl rfl (Nat.le_of_ble_eq_true rfl) dX2_wrongWithin_24 (fun q11 σ10 Hσ10 lσ10 hp hH => ?_)
        obtain ⟨hr1, hs1⟩ := hp; subst hr1; rw [hs1] at hH
        obtain ⟨k12, hf⟩ := zck_some hf
        refine lz_if_ne (tgt := 35) hx hb k12 dX2_wrongWithin_27 (by decide) (fun c13 => ?_) (fun c13 => ?_)
        · replace hf := (if_neg c13).symm.trans hf
          refine lv_aload_n hx hb dX2_wrongWithin_35 rfl (lv_at hl 1 rfl) ?_
          refine lv_iload hx hb dX2_wrongWithin_36 (lv_at hl 0 rfl) ?_
          refine lv_iload_n hx hb dX2_wrongWithin_38 rfl (lv_at hl 4 rfl) ?_
          obtain ⟨r14, k15, hf⟩ := zb1_some hf
          refine zcVi (C := RX2) (As := [.int (zI v7), .int (zI x3)]) (rest := []) hx hb hml hown hts hl.1 hK hH hA (c_X2_differenceAt hI hN  h_pa h_pa_bytes k15) zk_t3_4 zk_t3_6 zk_s2_2 zk_t1_4 zk_t3_7 hd_X2_differenceAt rfl ⟨rfl, rfl, Nat.le_of_ble_eq_true rfl, Nat.le_of_ble_eq_true rfl⟩ ⟨Nat.zero_le _, Nat.zero_le _⟩ hk_pa h_pa rfl rfl rfl (Nat.le_of_ble_eq_true rfl) dX2_wrongWithin_39 (fun q17 σ16 Hσ16 lσ16 hp hH => ?_)
          obtain ⟨hr1, hs1⟩ := hp; subst hr1; rw [hs1] at hH
          obtain ⟨k18, hf⟩ := zck_some hf
          refine lz_mabs hx hb (hml.trans hl.1.symm) hown hts zk_t3_8 zk_t1_210 zk_t1_6 zk_t1_211 ⟨Nat.le_of_ble_eq_true rfl, Nat.le_of_ble_eq_true rfl⟩ ⟨Nat.zero_le _, Nat.zero_le _⟩ k18 dX2_wrongWithin_42 ?_
          obtain ⟨v19, ev19, hf⟩ := zlt_some hf
          refine lz_nm ev19 ?_
          refine lv_istore (lv' := [(5, .int (zI v19)), (4, .int (zI v7)), (0, .ref (ad 12)), (1, .int (zI x1)), (2, .int (zI x2)), (3, .int (zI x3))]) hx hb dX2_wrongWithin_45 hl (by decide) rfl (fun ls hl => ?_)
          refine lv_iload_n hx hb dX2_wrongWithin_47 rfl (lv_at hl 4 rfl) ?_
          refine lv_iconst (v := zI 4) hx hb dX2_wrongWithin_48 (by decide +kernel) ?_
          obtain ⟨k20, hf⟩ := zck_some hf
          refine lz_icmp_gt (tgt := 71) hx hb ⟨k20, by decide⟩ dX2_wrongWithin_49 (by decide) (fun c21 => ?_) (fun c21 => ?_)
          · replace hf := (if_pos c21).symm.trans hf
            refine lv_iload hx hb dX2_wrongWithin_71 (lv_at hl 1 rfl) ?_
            cases hf
            replace hf := kr _ hnx.symm
            cases hf
            exact zreti hx hb hr hlocks hQ hH ⟨rfl, hbg⟩ dX2_wrongWithin_73
          · replace hf := (if_neg c21).symm.trans hf
            refine lv_iload hx hb dX2_wrongWithin_52 (lv_at hl 0 rfl) ?_
            refine lv_aload_n hx hb dX2_wrongWithin_54 rfl (lv_at hl 2 rfl) ?_
            obtain ⟨r22, k23, hf⟩ := zb1_some hf
            refine zcVi (C := RX2) (As := []) (rest := [.int (zI v19)]) hx hb hml hown hts hl.1 hK hH hA (c_X2_limit hI hN  h_pa k23) zk_t3_9 zk_t3_11 zk_s2_3 zk_t1_4 zk_t3_12 hd_X2_limit rfl ⟨rfl, rfl, Nat.le_of_ble_eq_true rfl, Nat.le_of_ble_eq_true rfl⟩ ⟨Nat.zero_le _, Nat.zero_le _⟩ hk_pa h_pa rfl rfl rfl (Nat.le_of_ble_eq_true rfl) dX2_wrongWithin_55 (fun q25 σ24 Hσ24 lσ24 hp hH => ?_)
            obtain ⟨hr1, hs1⟩ := hp; subst hr1; rw [hs1] at hH
            obtain ⟨k26, hf⟩ := zck_some hf
            refine lz_icmp_gt (tgt := 71) hx hb k26 dX2_wrongWithin_58 (by decide) (fun c27 => ?_) (fun c27 => ?_)
            · replace hf := (if_pos c27).symm.trans hf
              refine lv_iload hx hb dX2_wrongWithin_71 (lv_at hl 1 rfl) ?_
              cases hf
              replace hf := kr _ hnx.symm
              cases hf
              exact zreti hx hb hr hlocks hQ hH ⟨rfl, hbg⟩ dX2_wrongWithin_73
            · replace hf := (if_neg c27).symm.trans hf
              refine lv_iload_n hx hb dX2_wrongWithin_61 rfl (lv_at hl 4 rfl) ?_
              refine lv_iconst (v := zI 2) hx hb dX2_wrongWithin_62 (by decide +kernel) ?_
              obtain ⟨k28, hf⟩ := zck_some hf
              refine lz_icmp_lt (tgt := 74) hx hb ⟨k28, by decide⟩ dX2_wrongWithin_63 (by decide) (fun c29 => ?_) (fun c29 => ?_)
              · replace hf := (if_pos c29).symm.trans hf
                refine lz_iinc (lv' := [(3, .int (zI (x3 + 1))), (5, .int (zI v19)), (4, .int (zI v7)), (0, .ref (ad 12)), (1, .int (zI x1)), (2, .int (zI x2))]) hx hb dX2_wrongWithin_74 hl (j := 5) rfl (by decide) rfl (fun ls hl => ?_)
                refine lv_goto (tgt := 8) hx hb dX2_wrongWithin_77 (by decide) ?_
                cases hf
                exact ih (x3 + 1) _ hnx _ _ _ hH h_pa h_pa_bytes hbg _ (lv_sub hl [3, 4, 5, 0] rfl) kx kr
              · replace hf := (if_neg c29).symm.trans hf
                refine lv_iload hx hb dX2_wrongWithin_66 (lv_at hl 0 rfl) ?_
                obtain ⟨k30, hf⟩ := zck_some hf
                refine lz_if_eq (tgt := 74) hx hb k30 dX2_wrongWithin_68 (by decide) (fun c31 => ?_) (fun c31 => ?_)
                · replace hf := (if_pos c31).symm.trans hf
                  refine lz_iinc (lv' := [(3, .int (zI (x3 + 1))), (5, .int (zI v19)), (4, .int (zI v7)), (0, .ref (ad 12)), (1, .int (zI x1)), (2, .int (zI x2))]) hx hb dX2_wrongWithin_74 hl (j := 5) rfl (by decide) rfl (fun ls hl => ?_)
                  refine lv_goto (tgt := 8) hx hb dX2_wrongWithin_77 (by decide) ?_
                  cases hf
                  exact ih (x3 + 1) _ hnx _ _ _ hH h_pa h_pa_bytes hbg _ (lv_sub hl [3, 4, 5, 0] rfl) kx kr
                · replace hf := (if_neg c31).symm.trans hf
                  refine lv_iload hx hb dX2_wrongWithin_71 (lv_at hl 1 rfl) ?_
                  cases hf
                  replace hf := kr _ hnx.symm
                  cases hf
                  exact zreti hx hb hr hlocks hQ hH ⟨rfl, hbg⟩ dX2_wrongWithin_73
        · replace hf := (if_pos c13).symm.trans hf
          refine lv_aload_n hx hb dX2_wrongWithin_30 rfl (lv_at hl 1 rfl) ?_
          refine zget hx hb inlX2 rfl 1 rfl zk_t1_97 hts hown hK hH hk_pa h_pa rfl dX2_wrongWithin_31 ?_
          cases hf
          replace hf := kr _ hnx.symm
          cases hf
          exact zreti hx hb hr hlocks hQ hH ⟨rfl, hbg⟩ dX2_wrongWithin_34
  unfold f_X2_wrongWithin at hf
  refine lv_aload_n hx hb dX2_wrongWithin_0 rfl (lv_at hl 0 rfl) ?_
  refine lv_iload_n hx hb dX2_wrongWithin_1 rfl (lv_at hl 1 rfl) ?_
  obtain ⟨r32, k33, hf⟩ := zb1_some hf
  refine zcVi (C := RX2) (As := [.int (zI p1)]) (rest := []) hx hb hml hown hts hl.1 hK hH hA (c_X2_kindAt hI hN  h_pa h_pa_bytes k33) zk_t2_239 zk_t3_1 zk_s2_1 zk_t1_4 zk_t3_2 hd_X2_kindAt rfl ⟨rfl, rfl, Nat.le_of_ble_eq_true rfl, Nat.le_of_ble_eq_true rfl⟩ ⟨Nat.zero_le _, Nat.zero_le _⟩ hk_pa h_pa rfl rfl rfl (Nat.le_of_ble_eq_true rfl) dX2_wrongWithin_2 (fun q35 σ34 Hσ34 lσ34 hp hH => ?_)
  obtain ⟨hr1, hs1⟩ := hp; subst hr1; rw [hs1] at hH
  refine lv_istore_n (lv' := [(2, .int (zI r32)), (0, .ref (ad 12)), (1, .int (zI p1))]) hx hb dX2_wrongWithin_5 rfl hl (by decide) rfl (fun ls hl => ?_)
  refine lv_iconst (v := zI 0) hx hb dX2_wrongWithin_6 (by decide +kernel) ?_
  refine lv_istore_n (lv' := [(3, .int (zI 0)), (2, .int (zI r32)), (0, .ref (ad 12)), (1, .int (zI p1))]) hx hb dX2_wrongWithin_7 rfl hl (by decide) rfl (fun ls hl => ?_)
  obtain ⟨x39, k36, hf⟩ := zbs_some hf
  refine L8 p1 r32 zFU 0 x39 k36 _ _ _ hH h_pa h_pa_bytes hbg _ (lv_sub hl [2, 3, 1, 0] rfl) (fun w37 hres σ38 Hσ38 lσ38 hH h_pa h_pa_bytes hbg ls hl => ?_) (fun b hres => ?_)
  rotate_left
  · rw [hres] at hf; exact hf
  rw [hres] at hf
  replace hf := show _ = _ from hf
  simp only [zsel] at hf
  refine lv_iconst (v := zI (-1)) hx hb dX2_wrongWithin_80 (by decide +kernel) ?_
  cases hf
  exact zreti hx hb hr hlocks hQ hH ⟨rfl, hbg⟩ dX2_wrongWithin_81
abbrev rmX2_wrongBehindEnd : Room := { frames := 1, cells := 0, slots := 0, locals := 23 }
theorem hd_X2_wrongBehindEnd : yX2_wrongBehindEnd.cls = RX2 ∧ yX2_wrongBehindEnd.cls ≠ "java/lang/invoke/MethodHandle" ∧ yX2_wrongBehindEnd.cls ≠ "java/lang/invoke/VarHandle" ∧ (parseMethodDescriptor yX2_wrongBehindEnd.desc).map (fun d => d.parameters.length) = some 1 := by decide +kernel
set_option maxHeartbeats 4000000 in
set_option maxRecDepth 100000 in
theorem c_X2_wrongBehindEnd {l : Launch} {D : va_G} {cI cZ cF cL cD : ClassId} {ad : Nat → Nat} {N : Nat} (hI : ∀ i j, i < N → j < N → ad i = ad j → i = j) (hN : 19 ≤ N) {σ0 : Nat → va_E} {sz : Nat} {pa_bytes : Int → Int} {pa_size : Int} {pa_format : Int} {pa_faultPlace : Int} {pa_stitchesRead : Int} {p1 : Int} {R0 : Int} (h_pa : σ0 12 = oC_pa ad pa_size pa_format pa_faultPlace pa_stitchesRead) (h_pa_bytes : σ0 13 = .inl (cI, 49924, .inl (zA pa_bytes))) (hf : f_X2_wrongBehindEnd pa_bytes pa_size p1 = some R0) :
    Met l yX2_wrongBehindEnd (Cond.code yX2_wrongBehindEnd cX2_wrongBehindEnd 2 (some .int) :: wsL_law) rmX2_wrongBehindEnd (zPre D ad N (zT cI cZ cF cL cD) σ0 sz [.ref (ad 12), .int (zI p1)]) (zQi D ad N sz (fun r σ' => r = zI R0 ∧ σ' = σ0)) 0 0 (zFr ad N sz) := by
  refine zMet hI (plainFor_of_name (by decide)) (Nat.le_of_ble_eq_true rfl) ⟨rfl, rfl⟩ ?_
  intro p e s m args below meth c Q hx hb hr hlocks hml hown hts hK hsz hQ hH hA ls hl
  subst hsz
  have hk_pa : 12 < N := by omega
  have hk_pa_bytes : 13 < N := by omega
  have hl : lv_has ls 2 [(0, .ref (ad 12)), (1, .int (zI p1))] := hl
  have hbg : σ0 = σ0 := rfl
  unfold f_X2_wrongBehindEnd at hf
  refine lv_aload_n hx hb dX2_wrongBehindEnd_0 rfl (lv_at hl 0 rfl) ?_
  refine lv_iload_n hx hb dX2_wrongBehindEnd_1 rfl (lv_at hl 1 rfl) ?_
  obtain ⟨r1, k2, hf⟩ := zb1_some hf
  refine zcVi (C := RX2) (As := [.int (zI p1)]) (rest := []) hx hb hml hown hts hl.1 hK hH hA (c_X2_has hI hN  h_pa h_pa_bytes k2) zk_t3_3 zk_t2_209 zk_t2_210 zk_t1_4 zk_t2_211 hd_X2_has rfl ⟨rfl, rfl, Nat.le_of_ble_eq_true rfl, Nat.le_of_ble_eq_true rfl⟩ ⟨Nat.zero_le _, Nat.zero_le _⟩ hk_pa h_pa rfl rfl rfl (Nat.le_of_ble_eq_true rfl) dX2_wrongBehindEnd_2 (fun q4 σ3 Hσ3 lσ3 hp hH => ?_)
  obtain ⟨hr1, hs1⟩ := hp; subst hr1; rw [hs1] at hH
  obtain ⟨k5, hf⟩ := zck_some hf
  refine lz_if_ne (tgt := 13) hx hb k5 dX2_wrongBehindEnd_5 (by decide) (fun c6 => ?_) (fun c6 => ?_)
  · replace hf := (if_neg c6).symm.trans hf
    refine lv_aload_n hx hb dX2_wrongBehindEnd_13 rfl (lv_at hl 0 rfl) ?_
    refine zget hx hb inlX2 rfl 0 rfl zk_t1_95 hts hown hK hH hk_pa h_pa rfl dX2_wrongBehindEnd_14 ?_
    refine lv_iload_n hx hb dX2_wrongBehindEnd_17 rfl (lv_at hl 1 rfl) ?_
    obtain ⟨k7, hf⟩ := zck_some hf
    refine ziald hx hb hK hH hk_pa_bytes 0 h_pa_bytes rfl k7 rfl dX2_wrongBehindEnd_18 ?_
    refine lv_aload_n hx hb dX2_wrongBehindEnd_19 rfl (lv_at hl 0 rfl) ?_
    refine lv_iload_n hx hb dX2_wrongBehindEnd_20 rfl (lv_at hl 1 rfl) ?_
    obtain ⟨r8, k9, hf⟩ := zb1_some hf
    refine zcVi (C := RX2) (As := [.int (zI p1)]) (rest := [.int (zI (pa_bytes p1))]) hx hb hml hown hts hl.1 hK hH hA (c_X2_sumAhead hI hN  h_pa h_pa_bytes k9) zk_t3_17 zk_t3_19 zk_s2_5 zk_t1_4 zk_t3_20 hd_X2_sumAhead rfl ⟨rfl, rfl, Nat.le_of_ble_eq_true rfl, Nat.le_of_ble_eq_true rfl⟩ ⟨Nat.zero_le _, Nat.zero_le _⟩ hk_pa h_pa rfl rfl rfl (Nat.le_of_ble_eq_true rfl) dX2_wrongBehindEnd_21 (fun q11 σ10 Hσ10 lσ10 hp hH => ?_)
    obtain ⟨hr1, hs1⟩ := hp; subst hr1; rw [hs1] at hH
    obtain ⟨k12, hf⟩ := zck_some hf
    refine lz_icmp_eq (tgt := 29) hx hb k12 dX2_wrongBehindEnd_24 (by decide) (fun c13 => ?_) (fun c13 => ?_)
    · replace hf := (if_pos c13).symm.trans hf
      refine lv_iload_n hx hb dX2_wrongBehindEnd_29 rfl (lv_at hl 1 rfl) ?_
      refine lv_iconst (v := zI 1) hx hb dX2_wrongBehindEnd_30 (by decide +kernel) ?_
      refine lz_iadd hx hb dX2_wrongBehindEnd_31 ?_
      refine lv_aload_n hx hb dX2_wrongBehindEnd_32 rfl (lv_at hl 0 rfl) ?_
      refine zget hx hb inlX2 rfl 1 rfl zk_t1_97 hts hown hK hH hk_pa h_pa rfl dX2_wrongBehindEnd_33 ?_
      obtain ⟨k14, hf⟩ := zck_some hf
      refine lz_icmp_ge (tgt := 45) hx hb k14 dX2_wrongBehindEnd_36 (by decide) (fun c15 => ?_) (fun c15 => ?_)
      · replace hf := (if_pos c15).symm.trans hf
        refine lv_iconst (v := zI (-1)) hx hb dX2_wrongBehindEnd_45 (by decide +kernel) ?_
        cases hf
        exact zreti hx hb hr hlocks hQ hH ⟨rfl, hbg⟩ dX2_wrongBehindEnd_46
      · replace hf := (if_neg c15).symm.trans hf
        refine lv_iload_n hx hb dX2_wrongBehindEnd_39 rfl (lv_at hl 1 rfl) ?_
        refine lv_iconst (v := zI 1) hx hb dX2_wrongBehindEnd_40 (by decide +kernel) ?_
        refine lz_iadd hx hb dX2_wrongBehindEnd_41 ?_
        refine lv_goto (tgt := 46) hx hb dX2_wrongBehindEnd_42 (by decide) ?_
        cases hf
        exact zreti hx hb hr hlocks hQ hH ⟨rfl, hbg⟩ dX2_wrongBehindEnd_46
    · replace hf := (if_neg c13).symm.trans hf
      refine lv_iload_n hx hb dX2_wrongBehindEnd_27 rfl (lv_at hl 1 rfl) ?_
      cases hf
      exact zreti hx hb hr hlocks hQ hH ⟨rfl, hbg⟩ dX2_wrongBehindEnd_28
  · replace hf := (if_pos c6).symm.trans hf
    refine lv_aload_n hx hb dX2_wrongBehindEnd_8 rfl (lv_at hl 0 rfl) ?_
    refine zget hx hb inlX2 rfl 1 rfl zk_t1_97 hts hown hK hH hk_pa h_pa rfl dX2_wrongBehindEnd_9 ?_
    cases hf
    exact zreti hx hb hr hlocks hQ hH ⟨rfl, hbg⟩ dX2_wrongBehindEnd_12
abbrev rmX2_inspect : Room := { frames := 3, cells := 0, slots := 0, locals := 68 }
theorem hd_X2_inspect : yX2_inspect.cls = RX2 ∧ yX2_inspect.cls ≠ "java/lang/invoke/MethodHandle" ∧ yX2_inspect.cls ≠ "java/lang/invoke/VarHandle" ∧ (parseMethodDescriptor yX2_inspect.desc).map (fun d => d.parameters.length) = some 0 := by decide +kernel
set_option maxHeartbeats 4000000 in
set_option maxRecDepth 100000 in
theorem c_X2_inspect {l : Launch} {D : va_G} {cI cZ cF cL cD : ClassId} {ad : Nat → Nat} {N : Nat} (hI : ∀ i j, i < N → j < N → ad i = ad j → i = j) (hN : 19 ≤ N) {σ0 : Nat → va_E} {sz : Nat} {pa_bytes : Int → Int} {pa_size : Int} {pa_format : Int} {pa_faultPlace : Int} {pa_stitchesRead : Int} {R_pa_faultPlace : Int} {R_pa_stitchesRead : Int} (h_pa : σ0 12 = oC_pa ad pa_size pa_format pa_faultPlace pa_stitchesRead) (h_pa_bytes : σ0 13 = .inl (cI, 49924, .inl (zA pa_bytes))) (hf : f_X2_inspect pa_bytes pa_size pa_format pa_faultPlace pa_stitchesRead = some (R_pa_faultPlace, R_pa_stitchesRead)) :
    Met l yX2_inspect (Cond.code yX2_inspect cX2_inspect 6 none :: wsL_law) rmX2_inspect (zPre D ad N (zT cI cZ cF cL cD) σ0 sz [.ref (ad 12)]) (zQv D ad N sz (fun σ' => σ' 12 = oC_pa ad pa_size pa_format R_pa_faultPlace R_pa_stitchesRead ∧ ∀ i : Nat, i ≠ 12 → σ' i = σ0 i)) 0 0 (zFr ad N sz) := by
  refine zMet hI (plainFor_of_name (by decide)) (Nat.le_of_ble_eq_true rfl) ⟨rfl, rfl⟩ ?_
  intro p e s m args below meth c Q hx hb hr hlocks hml hown hts hK hsz hQ hH hA ls hl
  subst hsz
  have hk_pa : 12 < N := by omega
  have hk_pa_bytes : 13 < N := by omega
  have hl : lv_has ls 6 [(0, .ref (ad 12))] := hl
  have hbg : ∀ i : Nat, i ≠ 12 → σ0 i = σ0 i := fun _ _ => rfl
  have L20 : ∀ (x1 : Int)  (n : Nat) (x2 : Int) (pa_faultPlace : Int) (pa_stitchesRead : Int) (res : ((Int × Int × Int) ⊕ (Int × Int))), zlp (fun z => f_X2_inspect_L20 pa_bytes pa_size pa_format x1 z.1 z.2.1 z.2.2) n (x2, pa_faultPlace, pa_stitchesRead) = some res → ∀ (σ : Nat → va_E) (H : Heap) (locs : List Loc) (hH : zH D ad N (zFr ad N s.heap.size) s.heap σ H locs) (h_pa : σ 12 = oC_pa ad pa_size pa_format pa_faultPlace pa_stitchesRead) (h_pa_bytes : σ 13 = .inl (cI, 49924, .inl (zA pa_bytes))) (hbg : ∀ i : Nat, i ≠ 12 → σ i = σ0 i) (ls : Array Slot) (hl : lv_has ls 6 [(0, .ref (ad 12)), (1, .int (zI x1)), (2, .int (zI x2))]), (∀ (x2' : Int) (pa_faultPlace' : Int) (pa_stitchesRead' : Int), res = .inl (x2', pa_faultPlace', pa_stitchesRead') → ∀ (σ : Nat → va_E) (H : Heap) (locs : List Loc) (hH : zH D ad N (zFr ad N s.heap.size) s.heap σ H locs) (h_pa : σ 12 = oC_pa ad pa_size pa_format (pa_faultPlace') (pa_stitchesRead')) (h_pa_bytes : σ 13 = .inl (cI, 49924, .inl (zA pa_bytes))) (hbg : ∀ i : Nat, i ≠ 12 → σ i = σ0 i) (ls : Array Slot) (hl : lv_has ls 6 []), W p l e rmX2_inspect s m args below meth c H locs 0 0 Q (F0 m 101 ls [])) → (∀ b, res = .inr b → some b = some (R_pa_faultPlace, R_pa_stitchesRead)) → W p l e rmX2_inspect s m args below meth c H locs 0 0 Q (F0 m 20 ls []) := by
    intro x1 n
    induction n with
    | zero => intro x2 pa_faultPlace pa_stitchesRead res hz; exact (zlp_0 hz).elim
    | succ n ih =>
      intro x2 pa_faultPlace pa_stitchesRead res hz σ H locs hH h_pa h_pa_bytes hbg ls hl kx kr
      obtain ⟨nx, hf, hnx⟩ := zlp_some hz
      have hf : f_X2_inspect_L20 pa_bytes pa_size pa_format x1 x2 pa_faultPlace pa_stitchesRead = some nx := hf
      unfold f_X2_inspect_L20 at hf
      refine lv_iload_n hx hb dX2_inspect_20 rfl (lv_at hl 2 rfl) ?_
      refine lv_aload_n hx hb dX2_inspect_21 rfl (lv_at hl 0 rfl) ?_
      refine zget hx hb inlX2 rfl 1 rfl zk_t1_97 hts hown hK hH hk_pa h_pa rfl dX2_inspect_22 ?_
      obtain ⟨k1, hf⟩ := zck_some hf
      refine lz_icmp_ge (tgt := 101) hx hb k1 dX2_inspect_25 (by decide) (fun c2 => ?_) (fun c2 => ?_)
      · replace hf := (if_pos c2).symm.trans hf
        cases hf
        exact kx x2 pa_faultPlace pa_stitchesRead hnx.symm _ _ _ hH h_pa h_pa_bytes hbg _ (lv_sub hl [] rfl)
      · replace hf := (if_neg c2).symm.trans hf
        refine lv_iload_n hx hb dX2_inspect_28 rfl (lv_at hl 2 rfl) ?_
        refine lv_iload_n hx hb dX2_inspect_29 rfl (lv_at hl 1 rfl) ?_
        refine lz_imul hx hb dX2_inspect_30 ?_
        obtain ⟨v3, ev3, hf⟩ := zlt_some hf
        refine lz_nm ev3 ?_
        refine lv_istore_n (lv' := [(3, .int (zI v3)), (0, .ref (ad 12)), (1, .int (zI x1)), (2, .int (zI x2))]) hx hb dX2_inspect_31 rfl hl (by decide) rfl (fun ls hl => ?_)
        refine lv_aload_n hx hb dX2_inspect_32 rfl (lv_at hl 1 rfl) ?_
        refine lv_iload_n hx hb dX2_inspect_33 rfl (lv_at hl 0 rfl) ?_
        obtain ⟨r4, k5, hf⟩ := zb1_some hf
        refine zcVi (C := RX2) (As := [.int (zI v3)]) (rest := []) hx hb hml hown hts hl.1 hK hH hA (c_X2_wrongWithin hI hN  h_pa h_pa_bytes k5) zk_t2_235 zk_t2_237 zk_s2_0 zk_t1_4 zk_t2_238 hd_X2_wrongWithin rfl ⟨rfl, rfl, Nat.le_of_ble_eq_true rfl, Nat.le_of_ble_eq_true rfl⟩ ⟨Nat.zero_le _, Nat.zero_le _⟩ hk_pa h_pa rfl rfl rfl (Nat.le_of_ble_eq_true rfl) dX2_inspect_34 (fun q7 σ6 Hσ6 lσ6 hp hH => ?_)
        obtain ⟨hr1, hs1⟩ := hp; subst hr1; rw [hs1] at hH
        refine lv_istore (lv' := [(4, .int (zI r4)), (3, .int (zI v3)), (0, .ref (ad 12)), (1, .int (zI x1)), (2, .int (zI x2))]) hx hb dX2_inspect_37 hl (by decide) rfl (fun ls hl => ?_)
        refine lv_iload hx hb dX2_inspect_39 (lv_at hl 0 rfl) ?_
        refine lv_iconst (v := zI (-1)) hx hb dX2_inspect_41 (by decide +kernel) ?_
        obtain ⟨k8, hf⟩ := zck_some hf
        refine lz_icmp_eq (tgt := 52) hx hb ⟨k8, by decide⟩ dX2_inspect_42 (by decide) (fun c9 => ?_) (fun c9 => ?_)
        · replace hf := (if_pos c9).symm.trans hf
          refine lv_aload_n hx hb dX2_inspect_52 rfl (lv_at hl 2 rfl) ?_
          refine lv_iload_n hx hb dX2_inspect_53 rfl (lv_at hl 1 rfl) ?_
          obtain ⟨r10, k11, hf⟩ := zb1_some hf
          refine zcVi (C := RX2) (As := [.int (zI v3)]) (rest := []) hx hb hml hown hts hl.1 hK hH hA (c_X2_kindAt hI hN  h_pa h_pa_bytes k11) zk_t2_239 zk_t3_1 zk_s2_1 zk_t1_4 zk_t3_2 hd_X2_kindAt rfl ⟨rfl, rfl, Nat.le_of_ble_eq_true rfl, Nat.le_of_ble_eq_true rfl⟩ ⟨Nat.zero_le _, Nat.zero_le _⟩ hk_pa h_pa rfl rfl rfl (Nat.le_of_ble_eq_true rfl) dX2_inspect_54 (fun q13 σ12 Hσ12 lσ12 hp hH => ?_)
          obtain ⟨hr1, hs1⟩ := hp; subst hr1; rw [hs1] at hH
          refine lv_istore (lv' := [(5, .int (zI r10)), (4, .int (zI r4)), (3, .int (zI v3)), (0, .ref (ad 12)), (1, .int (zI x1)), (2, .int (zI x2))]) hx hb dX2_inspect_57 hl (by decide) rfl (fun ls hl => ?_)
          refine lv_iload hx hb dX2_inspect_59 (lv_at hl 0 rfl) ?_
          obtain ⟨k14, hf⟩ := zck_some hf
          refine lz_if_ne (tgt := 77) hx hb k14 dX2_inspect_61 (by decide) (fun c15 => ?_) (fun c15 => ?_)
          · replace hf := (if_neg c15).symm.trans hf
            refine lv_iload hx hb dX2_inspect_77 (lv_at hl 0 rfl) ?_
            refine lv_iconst (v := zI 4) hx hb dX2_inspect_79 (by decide +kernel) ?_
            obtain ⟨k16, hf⟩ := zck_some hf
            refine lz_icmp_ne (tgt := 95) hx hb ⟨k16, by decide⟩ dX2_inspect_80 (by decide) (fun c17 => ?_) (fun c17 => ?_)
            · replace hf := (if_neg c17).symm.trans hf
              refine lz_iinc (lv' := [(2, .int (zI (x2 + 1))), (5, .int (zI r10)), (4, .int (zI r4)), (3, .int (zI v3)), (0, .ref (ad 12)), (1, .int (zI x1))]) hx hb dX2_inspect_95 hl (j := 5) rfl (by decide) rfl (fun ls hl => ?_)
              refine lv_goto (tgt := 20) hx hb dX2_inspect_98 (by decide) ?_
              cases hf
              exact ih (x2 + 1) pa_faultPlace pa_stitchesRead _ hnx _ _ _ hH h_pa h_pa_bytes hbg _ (lv_sub hl [4, 5, 0] rfl) kx kr
            · replace hf := (if_pos c17).symm.trans hf
              refine lv_aload_n hx hb dX2_inspect_83 rfl (lv_at hl 3 rfl) ?_
              refine lv_aload_n hx hb dX2_inspect_84 rfl (lv_at hl 3 rfl) ?_
              refine lv_iload_n hx hb dX2_inspect_85 rfl (lv_at hl 2 rfl) ?_
              refine lv_iload_n hx hb dX2_inspect_86 rfl (lv_at hl 4 rfl) ?_
              refine lz_iadd hx hb dX2_inspect_87 ?_
              obtain ⟨r18, k19, hf⟩ := zb1_some hf
              refine zcVi (C := RX2) (As := [.int (zI (v3 + x1))]) (rest := [.ref (ad 12)]) hx hb hml hown hts hl.1 hK hH hA (c_X2_wrongBehindEnd hI hN  h_pa h_pa_bytes k19) zk_t3_13 zk_t3_15 zk_s2_4 zk_t1_4 zk_t3_16 hd_X2_wrongBehindEnd rfl ⟨rfl, rfl, Nat.le_of_ble_eq_true rfl, Nat.le_of_ble_eq_true rfl⟩ ⟨Nat.zero_le _, Nat.zero_le _⟩ hk_pa h_pa rfl rfl rfl (Nat.le_of_ble_eq_true rfl) dX2_inspect_88 (fun q21 σ20 Hσ20 lσ20 hp hH => ?_)
              obtain ⟨hr1, hs1⟩ := hp; subst hr1; rw [hs1] at hH
              refine zput hx hb inlX2 tyX2 tyX2_ok nmX2 rfl 3 rfl zk_t1_100 rfl hts hown hK hH hk_pa h_pa rfl rfl rfl dX2_inspect_91 (fun σ22 Hσ22 lσ22 h_pa hn hH => ?_)
              have h_pa : σ22 12 = oC_pa ad pa_size pa_format r18 pa_stitchesRead := h_pa
              have h_pa_bytes := (hn 13 (by decide)).trans h_pa_bytes
              have hbg : ∀ i : Nat, i ≠ 12 → σ22 i = σ0 i := fun i a0 => (hn i a0).trans (hbg i a0)
              cases hf
              replace hf := kr _ hnx.symm
              cases hf
              exact zretv hx hb hr hlocks hQ hH ⟨h_pa, hbg⟩ dX2_inspect_94
          · replace hf := (if_pos c15).symm.trans hf
            refine lv_aload_n hx hb dX2_inspect_64 rfl (lv_at hl 3 rfl) ?_
            refine lv_dup hx hb dX2_inspect_65 rfl ?_
            refine zget hx hb inlX2 rfl 4 rfl zk_t1_102 hts hown hK hH hk_pa h_pa rfl dX2_inspect_66 ?_
            refine lv_iconst (v := zI 1) hx hb dX2_inspect_69 (by decide +kernel) ?_
            refine lz_iadd hx hb dX2_inspect_70 ?_
            obtain ⟨v23, ev23, hf⟩ := zlt_some hf
            refine lz_nm ev23 ?_
            refine zput hx hb inlX2 tyX2 tyX2_ok nmX2 rfl 4 rfl zk_t1_102 rfl hts hown hK hH hk_pa h_pa rfl rfl rfl dX2_inspect_71 (fun σ24 Hσ24 lσ24 h_pa hn hH => ?_)
            have h_pa : σ24 12 = oC_pa ad pa_size pa_format pa_faultPlace v23 := h_pa
            have h_pa_bytes := (hn 13 (by decide)).trans h_pa_bytes
            have hbg : ∀ i : Nat, i ≠ 12 → σ24 i = σ0 i := fun i a0 => (hn i a0).trans (hbg i a0)
            refine lv_goto (tgt := 95) hx hb dX2_inspect_74 (by decide) ?_
            refine lz_iinc (lv' := [(2, .int (zI (x2 + 1))), (5, .int (zI r10)), (4, .int (zI r4)), (3, .int (zI v3)), (0, .ref (ad 12)), (1, .int (zI x1))]) hx hb dX2_inspect_95 hl (j := 5) rfl (by decide) rfl (fun ls hl => ?_)
            refine lv_goto (tgt := 20) hx hb dX2_inspect_98 (by decide) ?_
            cases hf
            exact ih (x2 + 1) pa_faultPlace v23 _ hnx _ _ _ hH h_pa h_pa_bytes hbg _ (lv_sub hl [4, 5, 0] rfl) kx kr
        · replace hf := (if_neg c9).symm.trans hf
          refine lv_aload_n hx hb dX2_inspect_45 rfl (lv_at hl 2 rfl) ?_
          refine lv_iload hx hb dX2_inspect_46 (lv_at hl 0 rfl) ?_
          refine zput hx hb inlX2 tyX2 tyX2_ok nmX2 rfl 3 rfl zk_t1_100 rfl hts hown hK hH hk_pa h_pa rfl rfl rfl dX2_inspect_48 (fun σ25 Hσ25 lσ25 h_pa hn hH => ?_)
          have h_pa : σ25 12 = oC_pa ad pa_size pa_format r4 pa_stitchesRead := h_pa
          have h_pa_bytes := (hn 13 (by decide)).trans h_pa_bytes
          have hbg : ∀ i : Nat, i ≠ 12 → σ25 i = σ0 i := fun i a0 => (hn i a0).trans (hbg i a0)
          cases hf
          replace hf := kr _ hnx.symm
          cases hf
          exact zretv hx hb hr hlocks hQ hH ⟨h_pa, hbg⟩ dX2_inspect_51
  unfold f_X2_inspect at hf
  refine lv_aload_n hx hb dX2_inspect_0 rfl (lv_at hl 0 rfl) ?_
  obtain ⟨r26, k27, hf⟩ := zb1_some hf
  refine zcVi (C := RX2) (As := []) (rest := []) hx hb hml hown hts hl.1 hK hH hA (c_X2_bytesOfCommand hI hN  h_pa k27) zk_t2_231 zk_t2_233 zk_s1_15 zk_t1_4 zk_t2_234 hd_X2_bytesOfCommand rfl ⟨rfl, rfl, Nat.le_of_ble_eq_true rfl, Nat.le_of_ble_eq_true rfl⟩ ⟨Nat.zero_le _, Nat.zero_le _⟩ hk_pa h_pa rfl rfl rfl (Nat.le_of_ble_eq_true rfl) dX2_inspect_1 (fun q29 σ28 Hσ28 lσ28 hp hH => ?_)
  obtain ⟨hr1, hs1⟩ := hp; subst hr1; rw [hs1] at hH
  refine lv_istore_n (lv' := [(1, .int (zI r26)), (0, .ref (ad 12))]) hx hb dX2_inspect_4 rfl hl (by decide) rfl (fun ls hl => ?_)
  refine lv_aload_n hx hb dX2_inspect_5 rfl (lv_at hl 1 rfl) ?_
  refine lv_iconst (v := zI 0) hx hb dX2_inspect_6 (by decide +kernel) ?_
  refine zput hx hb inlX2 tyX2 tyX2_ok nmX2 rfl 4 rfl zk_t1_102 rfl hts hown hK hH hk_pa h_pa rfl rfl rfl dX2_inspect_7 (fun σ30 Hσ30 lσ30 h_pa hn hH => ?_)
  have h_pa : σ30 12 = oC_pa ad pa_size pa_format pa_faultPlace 0 := h_pa
  have h_pa_bytes := (hn 13 (by decide)).trans h_pa_bytes
  have hbg : ∀ i : Nat, i ≠ 12 → σ30 i = σ0 i := fun i a0 => (hn i a0).trans (hbg i a0)
  refine lv_aload_n hx hb dX2_inspect_10 rfl (lv_at hl 1 rfl) ?_
  refine lv_aload_n hx hb dX2_inspect_11 rfl (lv_at hl 1 rfl) ?_
  refine zget hx hb inlX2 rfl 1 rfl zk_t1_97 hts hown hK hH hk_pa h_pa rfl dX2_inspect_12 ?_
  refine zput hx hb inlX2 tyX2 tyX2_ok nmX2 rfl 3 rfl zk_t1_100 rfl hts hown hK hH hk_pa h_pa rfl rfl rfl dX2_inspect_15 (fun σ31 Hσ31 lσ31 h_pa hn hH => ?_)
  have h_pa : σ31 12 = oC_pa ad pa_size pa_format pa_size 0 := h_pa
  have h_pa_bytes := (hn 13 (by decide)).trans h_pa_bytes
  have hbg : ∀ i : Nat, i ≠ 12 → σ31 i = σ0 i := fun i a0 => (hn i a0).trans (hbg i a0)
  refine lv_iconst (v := zI 0) hx hb dX2_inspect_18 (by decide +kernel) ?_
  refine lv_istore_n (lv' := [(2, .int (zI 0)), (1, .int (zI r26)), (0, .ref (ad 12))]) hx hb dX2_inspect_19 rfl hl (by decide) rfl (fun ls hl => ?_)
  obtain ⟨x37, k32, hf⟩ := zbs_some hf
  refine L20 r26 zFU 0 pa_size 0 x37 k32 _ _ _ hH h_pa h_pa_bytes hbg _ (lv_sub hl [2, 1, 0] rfl) (fun w33 w34 w35 hres σ36 Hσ36 lσ36 hH h_pa h_pa_bytes hbg ls hl => ?_) (fun b hres => ?_)
  rotate_left
  · rw [hres] at hf; exact hf
  rw [hres] at hf
  replace hf := show _ = _ from hf
  simp only [zsel] at hf
  cases hf
  exact zretv hx hb hr hlocks hQ hH ⟨h_pa, hbg⟩ dX2_inspect_101
