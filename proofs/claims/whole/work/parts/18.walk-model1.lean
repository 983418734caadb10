abbrev rmX7_thrown : Room := { frames := 0, cells := 0, slots := 0, locals := 0 }
theorem hd_X7_thrown : yX7_thrown.cls = RX7 ∧ yX7_thrown.cls ≠ "java/lang/invoke/MethodHandle" ∧ yX7_thrown.cls ≠ "java/lang/invoke/VarHandle" ∧ (parseMethodDescriptor yX7_thrown.desc).map (fun d => d.parameters.length) = some 0 := by decide +kernel
set_option maxHeartbeats 4000000 in
set_option maxRecDepth 100000 in
theorem c_X7_thrown {l : Launch} {D : va_G} {cI cZ cF cL cD : ClassId} {ad : Nat → Nat} {N : Nat} (hI : ∀ i j, i < N → j < N → ad i = ad j → i = j) (hN : 46 ≤ N) {σ0 : Nat → va_E} {sz : Nat} {mo_fields : Int} {mo_bound : Int} {mo_points : Int} {mo_crossings : Int} {mo_isKnown : Int} {mo_commands : Int} {mo_needleX : Int} {mo_needleY : Int} {mo_hasFile : Int} {mo_format : Int} {mo_length : Int} {mo_heads : Int} {mo_late : Int} {mo_ran : Int} {mo_program : Int} {mo_thrown : Int} {mo_rowY : Int} {mo_stitches : Int} {R0 : Int} (h_mo : σ0 19 = oC_mo ad mo_fields mo_bound mo_points mo_crossings mo_isKnown mo_commands mo_needleX mo_needleY mo_hasFile mo_format mo_length mo_heads mo_late mo_ran mo_program mo_thrown mo_rowY mo_stitches) (hf : f_X7_thrown mo_thrown = some R0) :
    Met l yX7_thrown (Cond.code yX7_thrown cX7_thrown 1 (some .int) :: wsL_law) rmX7_thrown (zPre D ad N (zT cI cZ cF cL cD) σ0 sz [.ref (ad 19)]) (zQi D ad N sz (fun r σ' => r = zI R0 ∧ σ' = σ0)) 0 0 (zFr ad N sz) := by
  refine zMet hI (plainFor_of_name (by decide)) (Nat.le_of_ble_eq_true rfl) ⟨rfl, rfl⟩ ?_
  intro p e s m args below meth c Q hx hb hr hlocks hml hown hts hK hsz hQ hH hA ls hl
  subst hsz
  have hk_mo : 19 < N := by omega
  have hl : lv_has ls 1 [(0, .ref (ad 19))] := hl
  have hbg : σ0 = σ0 := rfl
  unfold f_X7_thrown at hf
  refine lv_aload_n hx hb dX7_thrown_0 rfl (lv_at hl 0 rfl) ?_
  refine zget hx hb inlX7 rfl 39 rfl zk_t4_152 hts hown hK hH hk_mo h_mo rfl dX7_thrown_1 ?_
  cases hf
  exact zreti hx hb hr hlocks hQ hH ⟨rfl, hbg⟩ dX7_thrown_4
abbrev rmX7_fails : Room := { frames := 0, cells := 0, slots := 0, locals := 0 }
theorem hd_X7_fails : yX7_fails.cls = RX7 ∧ yX7_fails.cls ≠ "java/lang/invoke/MethodHandle" ∧ yX7_fails.cls ≠ "java/lang/invoke/VarHandle" ∧ (parseMethodDescriptor yX7_fails.desc).map (fun d => d.parameters.length) = some 1 := by decide +kernel
set_option maxHeartbeats 4000000 in
set_option maxRecDepth 100000 in
theorem c_X7_fails {l : Launch} {D : va_G} {cI cZ cF cL cD : ClassId} {ad : Nat → Nat} {N : Nat} (hI : ∀ i j, i < N → j < N → ad i = ad j → i = j) (hN : 46 ≤ N) {σ0 : Nat → va_E} {sz : Nat} {mo_fields : Int} {mo_bound : Int} {mo_points : Int} {mo_crossings : Int} {mo_isKnown : Int} {mo_commands : Int} {mo_needleX : Int} {mo_needleY : Int} {mo_hasFile : Int} {mo_format : Int} {mo_length : Int} {mo_heads : Int} {mo_late : Int} {mo_ran : Int} {mo_program : Int} {mo_thrown : Int} {mo_rowY : Int} {mo_stitches : Int} {p1 : Int} {R0 : Int} {R_mo_thrown : Int} (h_mo : σ0 19 = oC_mo ad mo_fields mo_bound mo_points mo_crossings mo_isKnown mo_commands mo_needleX mo_needleY mo_hasFile mo_format mo_length mo_heads mo_late mo_ran mo_program mo_thrown mo_rowY mo_stitches) (hf : f_X7_fails mo_thrown p1 = some (R0, R_mo_thrown)) :
    Met l yX7_fails (Cond.code yX7_fails cX7_fails 2 (some .int) :: wsL_law) rmX7_fails (zPre D ad N (zT cI cZ cF cL cD) σ0 sz [.ref (ad 19), .int (zI p1)]) (zQi D ad N sz (fun r σ' => r = zI R0 ∧ σ' 19 = oC_mo ad mo_fields mo_bound mo_points mo_crossings mo_isKnown mo_commands mo_needleX mo_needleY mo_hasFile mo_format mo_length mo_heads mo_late mo_ran mo_program R_mo_thrown mo_rowY mo_stitches ∧ ∀ i : Nat, i ≠ 19 → σ' i = σ0 i)) 0 0 (zFr ad N sz) := by
  refine zMet hI (plainFor_of_name (by decide)) (Nat.le_of_ble_eq_true rfl) ⟨rfl, rfl⟩ ?_
  intro p e s m args below meth c Q hx hb hr hlocks hml hown hts hK hsz hQ hH hA ls hl
  subst hsz
  have hk_mo : 19 < N := by omega
  have hl : lv_has ls 2 [(0, .ref (ad 19)), (1, .int (zI p1))] := hl
  have hbg : ∀ i : Nat, i ≠ 19 → σ0 i = σ0 i := fun _ _ => rfl
  unfold f_X7_fails at hf
  refine lv_aload_n hx hb dX7_fails_0 rfl (lv_at hl 0 rfl) ?_
  refine lv_iload_n hx hb dX7_fails_1 rfl (lv_at hl 1 rfl) ?_
  refine zput hx hb inlX7 tyX7 tyX7_ok nmX7 rfl 39 rfl zk_t4_152 rfl hts hown hK hH hk_mo h_mo rfl rfl rfl dX7_fails_2 (fun σ1 Hσ1 lσ1 h_mo hn hH => ?_)
  have h_mo : σ1 19 = oC_mo ad mo_fields mo_bound mo_points mo_crossings mo_isKnown mo_commands mo_needleX mo_needleY mo_hasFile mo_format mo_length mo_heads mo_late mo_ran mo_program p1 mo_rowY mo_stitches := h_mo
  have hbg : ∀ i : Nat, i ≠ 19 → σ1 i = σ0 i := fun i a0 => (hn i a0).trans (hbg i a0)
  refine lv_iconst (v := zI 0) hx hb dX7_fails_5 (by decide +kernel) ?_
  cases hf
  exact zreti hx hb hr hlocks hQ hH ⟨rfl, h_mo, hbg⟩ dX7_fails_6
abbrev rmX7_asks : Room := { frames := 0, cells := 0, slots := 0, locals := 0 }
theorem hd_X7_asks : yX7_asks.cls = RX7 ∧ yX7_asks.cls ≠ "java/lang/invoke/MethodHandle" ∧ yX7_asks.cls ≠ "java/lang/invoke/VarHandle" ∧ (parseMethodDescriptor yX7_asks.desc).map (fun d => d.parameters.length) = some 1 := by decide +kernel
set_option maxHeartbeats 4000000 in
set_option maxRecDepth 100000 in
theorem c_X7_asks {l : Launch} {D : va_G} {cI cZ cF cL cD : ClassId} {ad : Nat → Nat} {N : Nat} (hI : ∀ i j, i < N → j < N → ad i = ad j → i = j) (hN : 46 ≤ N) {σ0 : Nat → va_E} {sz : Nat} {mo_fields : Int} {mo_bound : Int} {mo_points : Int} {mo_crossings : Int} {mo_isKnown : Int} {mo_commands : Int} {mo_needleX : Int} {mo_needleY : Int} {mo_hasFile : Int} {mo_format : Int} {mo_length : Int} {mo_heads : Int} {mo_late : Int} {mo_ran : Int} {mo_program : Int} {mo_thrown : Int} {mo_rowY : Int} {mo_stitches : Int} {p1 : Int} {R0 : Int} {R_mo_thrown : Int} (h_mo : σ0 19 = oC_mo ad mo_fields mo_bound mo_points mo_crossings mo_isKnown mo_commands mo_needleX mo_needleY mo_hasFile mo_format mo_length mo_heads mo_late mo_ran mo_program mo_thrown mo_rowY mo_stitches) (hf : f_X7_asks mo_thrown p1 = some (R0, R_mo_thrown)) :
    Met l yX7_asks (Cond.code yX7_asks cX7_asks 2 (some .boolean) :: wsL_law) rmX7_asks (zPre D ad N (zT cI cZ cF cL cD) σ0 sz [.ref (ad 19), .int (zI p1)]) (zQi D ad N sz (fun r σ' => r = zI R0 ∧ σ' 19 = oC_mo ad mo_fields mo_bound mo_points mo_crossings mo_isKnown mo_commands mo_needleX mo_needleY mo_hasFile mo_format mo_length mo_heads mo_late mo_ran mo_program R_mo_thrown mo_rowY mo_stitches ∧ ∀ i : Nat, i ≠ 19 → σ' i = σ0 i)) 0 0 (zFr ad N sz) := by
  refine zMet hI (plainFor_of_name (by decide)) (Nat.le_of_ble_eq_true rfl) ⟨rfl, rfl⟩ ?_
  intro p e s m args below meth c Q hx hb hr hlocks hml hown hts hK hsz hQ hH hA ls hl
  subst hsz
  have hk_mo : 19 < N := by omega
  have hl : lv_has ls 2 [(0, .ref (ad 19)), (1, .int (zI p1))] := hl
  have hbg : ∀ i : Nat, i ≠ 19 → σ0 i = σ0 i := fun _ _ => rfl
  have J10 : ∀ (mo_thrown : Int) (x1 : Int) (s1 : Int) (σ : Nat → va_E) (H : Heap) (locs : List Loc) (hH : zH D ad N (zFr ad N s.heap.size) s.heap σ H locs) (h_mo : σ 19 = oC_mo ad mo_fields mo_bound mo_points mo_crossings mo_isKnown mo_commands mo_needleX mo_needleY mo_hasFile mo_format mo_length mo_heads mo_late mo_ran mo_program mo_thrown mo_rowY mo_stitches) (hbg : ∀ i : Nat, i ≠ 19 → σ i = σ0 i) (ls : Array Slot) (hl : lv_has ls 2 [(1, .int (zI x1))]), f_X7_asks_10 mo_thrown x1 s1 = some (R0, R_mo_thrown) → W p l e rmX7_asks s m args below meth c H locs 0 0 Q (F0 m 10 ls [.int (zI s1), .ref (ad 19)]) := by
    intro mo_thrown x1 s1 σ H locs hH h_mo hbg ls hl hf
    unfold f_X7_asks_10 at hf
    refine zput hx hb inlX7 tyX7 tyX7_ok nmX7 rfl 39 rfl zk_t4_152 rfl hts hown hK hH hk_mo h_mo rfl rfl rfl dX7_asks_10 (fun σ1 Hσ1 lσ1 h_mo hn hH => ?_)
    have h_mo : σ1 19 = oC_mo ad mo_fields mo_bound mo_points mo_crossings mo_isKnown mo_commands mo_needleX mo_needleY mo_hasFile mo_format mo_length mo_heads mo_late mo_ran mo_program s1 mo_rowY mo_stitches := h_mo
    have hbg : ∀ i : Nat, i ≠ 19 → σ1 i = σ0 i := fun i a0 => (hn i a0).trans (hbg i a0)
    refine lv_iload_n hx hb dX7_asks_13 rfl (lv_at hl 0 rfl) ?_
    obtain ⟨k2, hf⟩ := zck_some hf
    cases hf
    exact zretz hx hb hr hlocks hQ hH ⟨rfl, h_mo, hbg⟩ (z_nar _ k2) dX7_asks_14
  unfold f_X7_asks at hf
  refine lv_aload_n hx hb dX7_asks_0 rfl (lv_at hl 0 rfl) ?_
  refine lv_iload_n hx hb dX7_asks_1 rfl (lv_at hl 1 rfl) ?_
  obtain ⟨k3, hf⟩ := zck_some hf
  refine lz_if_eq (tgt := 9) hx hb k3 dX7_asks_2 (by decide) (fun c4 => ?_) (fun c4 => ?_)
  · replace hf := (if_pos c4).symm.trans hf
    refine lv_iconst (v := zI 1) hx hb dX7_asks_9 (by decide +kernel) ?_
    exact J10 mo_thrown p1 1 _ _ _ hH h_mo hbg _ (lv_sub hl [1] rfl) hf
  · replace hf := (if_neg c4).symm.trans hf
    refine lv_iconst (v := zI 0) hx hb dX7_asks_5 (by decide +kernel) ?_
    refine lv_goto (tgt := 10) hx hb dX7_asks_6 (by decide) ?_
    exact J10 mo_thrown p1 0 _ _ _ hH h_mo hbg _ (lv_sub hl [1] rfl) hf
abbrev rmX7_in : Room := { frames := 0, cells := 0, slots := 0, locals := 0 }
theorem hd_X7_in : yX7_in.cls ≠ "java/lang/invoke/MethodHandle" ∧ yX7_in.cls ≠ "java/lang/invoke/VarHandle" ∧ (parseMethodDescriptor yX7_in.desc).map (fun d => d.parameters.length) = some 3 := by decide +kernel
set_option maxHeartbeats 4000000 in
set_option maxRecDepth 100000 in
theorem c_X7_in {l : Launch} {D : va_G} {cI cZ cF cL cD : ClassId} {ad : Nat → Nat} {N : Nat} (hI : ∀ i j, i < N → j < N → ad i = ad j → i = j) (hN : 46 ≤ N) {σ0 : Nat → va_E} {sz : Nat} {p0 : Int} {p1 : Int} {p2 : Int} {R0 : Int}  (hf : f_X7_in p0 p1 p2 = some R0) :
    Met l yX7_in (Cond.code yX7_in cX7_in 3 (some .boolean) :: wsL_law) rmX7_in (zPre D ad N (zT cI cZ cF cL cD) σ0 sz [.int (zI p0), .int (zI p1), .int (zI p2)]) (zQi D ad N sz (fun r σ' => r = zI R0 ∧ σ' = σ0)) 0 0 (zFr ad N sz) := by
  refine zMet hI (plainFor_of_name (by decide)) (Nat.le_of_ble_eq_true rfl) ⟨rfl, rfl⟩ ?_
  intro p e s m args below meth c Q hx hb hr hlocks hml hown hts hK hsz hQ hH hA ls hl
  subst hsz
  have hl : lv_has ls 3 [(0, .int (zI p0)), (1, .int (zI p1)), (2, .int (zI p2))] := hl
  have hbg : σ0 = σ0 := rfl
  unfold f_X7_in at hf
  refine lv_iload_n hx hb dX7_in_0 rfl (lv_at hl 0 rfl) ?_
  refine lv_iload_n hx hb dX7_in_1 rfl (lv_at hl 1 rfl) ?_
  obtain ⟨k1, hf⟩ := zck_some hf
  refine lz_icmp_lt (tgt := 14) hx hb k1 dX7_in_2 (by decide) (fun c2 => ?_) (fun c2 => ?_)
  · replace hf := (if_pos c2).symm.trans hf
    refine lv_iconst (v := zI 0) hx hb dX7_in_14 (by decide +kernel) ?_
    cases hf
    exact zretz hx hb hr hlocks hQ hH ⟨rfl, hbg⟩ (z_nar _ (Or.inl rfl)) dX7_in_15
  · replace hf := (if_neg c2).symm.trans hf
    refine lv_iload_n hx hb dX7_in_5 rfl (lv_at hl 0 rfl) ?_
    refine lv_iload_n hx hb dX7_in_6 rfl (lv_at hl 2 rfl) ?_
    obtain ⟨k3, hf⟩ := zck_some hf
    refine lz_icmp_gt (tgt := 14) hx hb k3 dX7_in_7 (by decide) (fun c4 => ?_) (fun c4 => ?_)
    · replace hf := (if_pos c4).symm.trans hf
      refine lv_iconst (v := zI 0) hx hb dX7_in_14 (by decide +kernel) ?_
      cases hf
      exact zretz hx hb hr hlocks hQ hH ⟨rfl, hbg⟩ (z_nar _ (Or.inl rfl)) dX7_in_15
    · replace hf := (if_neg c4).symm.trans hf
      refine lv_iconst (v := zI 1) hx hb dX7_in_10 (by decide +kernel) ?_
      refine lv_goto (tgt := 15) hx hb dX7_in_11 (by decide) ?_
      cases hf
      exact zretz hx hb hr hlocks hQ hH ⟨rfl, hbg⟩ (z_nar _ (Or.inr rfl)) dX7_in_15
abbrev rmX7_size : Room := { frames := 0, cells := 0, slots := 0, locals := 0 }
theorem hd_X7_size : yX7_size.cls ≠ "java/lang/invoke/MethodHandle" ∧ yX7_size.cls ≠ "java/lang/invoke/VarHandle" ∧ (parseMethodDescriptor yX7_size.desc).map (fun d => d.parameters.length) = some 1 := by decide +kernel
set_option maxHeartbeats 4000000 in
set_option maxRecDepth 100000 in
theorem c_X7_size {l : Launch} {D : va_G} {cI cZ cF cL cD : ClassId} {ad : Nat → Nat} {N : Nat} (hI : ∀ i j, i < N → j < N → ad i = ad j → i = j) (hN : 46 ≤ N) {σ0 : Nat → va_E} {sz : Nat} {p0 : Int} {R0 : Int}  (hf : f_X7_size p0 = some R0) :
    Met l yX7_size (Cond.code yX7_size cX7_size 1 (some .int) :: wsL_law) rmX7_size (zPre D ad N (zT cI cZ cF cL cD) σ0 sz [.int (zI p0)]) (zQi D ad N sz (fun r σ' => r = zI R0 ∧ σ' = σ0)) 0 0 (zFr ad N sz) := by
  refine zMet hI (plainFor_of_name (by decide)) (Nat.le_of_ble_eq_true rfl) ⟨rfl, rfl⟩ ?_
  intro p e s m args below meth c Q hx hb hr hlocks hml hown hts hK hsz hQ hH hA ls hl
  subst hsz
  have hl : lv_has ls 1 [(0, .int (zI p0))] := hl
  have hbg : σ0 = σ0 := rfl
  unfold f_X7_size at hf
  refine lv_iload_n hx hb dX7_size_0 rfl (lv_at hl 0 rfl) ?_
  obtain ⟨k1, hf⟩ := zck_some hf
  refine lz_if_ge (tgt := 9) hx hb k1 dX7_size_1 (by decide) (fun c2 => ?_) (fun c2 => ?_)
  · replace hf := (if_pos c2).symm.trans hf
    refine lv_iload_n hx hb dX7_size_9 rfl (lv_at hl 0 rfl) ?_
    cases hf
    exact zreti hx hb hr hlocks hQ hH ⟨rfl, hbg⟩ dX7_size_10
  · replace hf := (if_neg c2).symm.trans hf
    refine lv_iload_n hx hb dX7_size_4 rfl (lv_at hl 0 rfl) ?_
    refine lz_ineg hx hb dX7_size_5 ?_
    refine lv_goto (tgt := 10) hx hb dX7_size_6 (by decide) ?_
    cases hf
    exact zreti hx hb hr hlocks hQ hH ⟨rfl, hbg⟩ dX7_size_10
abbrev rmX7_greater : Room := { frames := 0, cells := 0, slots := 0, locals := 0 }
theorem hd_X7_greater : yX7_greater.cls ≠ "java/lang/invoke/MethodHandle" ∧ yX7_greater.cls ≠ "java/lang/invoke/VarHandle" ∧ (parseMethodDescriptor yX7_greater.desc).map (fun d => d.parameters.length) = some 2 := by decide +kernel
set_option maxHeartbeats 4000000 in
set_option maxRecDepth 100000 in
theorem c_X7_greater {l : Launch} {D : va_G} {cI cZ cF cL cD : ClassId} {ad : Nat → Nat} {N : Nat} (hI : ∀ i j, i < N → j < N → ad i = ad j → i = j) (hN : 46 ≤ N) {σ0 : Nat → va_E} {sz : Nat} {p0 : Int} {p1 : Int} {R0 : Int}  (hf : f_X7_greater p0 p1 = some R0) :
    Met l yX7_greater (Cond.code yX7_greater cX7_greater 2 (some .int) :: wsL_law) rmX7_greater (zPre D ad N (zT cI cZ cF cL cD) σ0 sz [.int (zI p0), .int (zI p1)]) (zQi D ad N sz (fun r σ' => r = zI R0 ∧ σ' = σ0)) 0 0 (zFr ad N sz) := by
  refine zMet hI (plainFor_of_name (by decide)) (Nat.le_of_ble_eq_true rfl) ⟨rfl, rfl⟩ ?_
  intro p e s m args below meth c Q hx hb hr hlocks hml hown hts hK hsz hQ hH hA ls hl
  subst hsz
  have hl : lv_has ls 2 [(0, .int (zI p0)), (1, .int (zI p1))] := hl
  have hbg : σ0 = σ0 := rfl
  unfold f_X7_greater at hf
  refine lv_iload_n hx hb dX7_greater_0 rfl (lv_at hl 0 rfl) ?_
  refine lv_iload_n hx hb dX7_greater_1 rfl (lv_at hl 1 rfl) ?_
  obtain ⟨k1, hf⟩ := zck_some hf
  refine lz_icmp_le (tgt := 9) hx hb k1 dX7_greater_2 (by decide) (fun c2 => ?_) (fun c2 => ?_)
  · replace hf := (if_pos c2).symm.trans hf
    refine lv_iload_n hx hb dX7_greater_9 rfl (lv_at hl 1 rfl) ?_
    cases hf
    exact zreti hx hb hr hlocks hQ hH ⟨rfl, hbg⟩ dX7_greater_10
  · replace hf := (if_neg c2).symm.trans hf
    refine lv_iload_n hx hb dX7_greater_5 rfl (lv_at hl 0 rfl) ?_
    refine lv_goto (tgt := 10) hx hb dX7_greater_6 (by decide) ?_
    cases hf
    exact zreti hx hb hr hlocks hQ hH ⟨rfl, hbg⟩ dX7_greater_10
abbrev rmX7_down : Room := { frames := 0, cells := 0, slots := 0, locals := 0 }
theorem hd_X7_down : yX7_down.cls ≠ "java/lang/invoke/MethodHandle" ∧ yX7_down.cls ≠ "java/lang/invoke/VarHandle" ∧ (parseMethodDescriptor yX7_down.desc).map (fun d => d.parameters.length) = some 2 := by decide +kernel
set_option maxHeartbeats 4000000 in
set_option maxRecDepth 100000 in
theorem c_X7_down {l : Launch} {D : va_G} {cI cZ cF cL cD : ClassId} {ad : Nat → Nat} {N : Nat} (hI : ∀ i j, i < N → j < N → ad i = ad j → i = j) (hN : 46 ≤ N) {σ0 : Nat → va_E} {sz : Nat} {p0 : Int} {p1 : Int} {R0 : Int}  (hf : f_X7_down p0 p1 = some R0) :
    Met l yX7_down (Cond.code yX7_down cX7_down 4 (some .int) :: wsL_law) rmX7_down (zPre D ad N (zT cI cZ cF cL cD) σ0 sz [.int (zI p0), .int (zI p1)]) (zQi D ad N sz (fun r σ' => r = zI R0 ∧ σ' = σ0)) 0 0 (zFr ad N sz) := by
  refine zMet hI (plainFor_of_name (by decide)) (Nat.le_of_ble_eq_true rfl) ⟨rfl, rfl⟩ ?_
  intro p e s m args below meth c Q hx hb hr hlocks hml hown hts hK hsz hQ hH hA ls hl
  subst hsz
  have hl : lv_has ls 4 [(0, .int (zI p0)), (1, .int (zI p1))] := hl
  have hbg : σ0 = σ0 := rfl
  have J21 : ∀ (x2 : Int) (s0 : Int) (σ : Nat → va_E) (H : Heap) (locs : List Loc) (hH : zH D ad N (zFr ad N s.heap.size) s.heap σ H locs)  (hbg : σ = σ0) (ls : Array Slot) (hl : lv_has ls 4 [(2, .int (zI x2))]), f_X7_down_21 x2 s0 = some R0 → W p l e rmX7_down s m args below meth c H locs 0 0 Q (F0 m 21 ls [.int (zI s0)]) := by
    intro x2 s0 σ H locs hH  hbg ls hl hf
    unfold f_X7_down_21 at hf
    refine lv_istore_n (lv' := [(3, .int (zI s0)), (2, .int (zI x2))]) hx hb dX7_down_21 rfl hl (by decide) rfl (fun ls hl => ?_)
    refine lv_iload_n hx hb dX7_down_22 rfl (lv_at hl 1 rfl) ?_
    obtain ⟨k1, hf⟩ := zck_some hf
    refine lz_if_lt (tgt := 32) hx hb k1 dX7_down_23 (by decide) (fun c2 => ?_) (fun c2 => ?_)
    · replace hf := (if_pos c2).symm.trans hf
      refine lv_iload_n hx hb dX7_down_32 rfl (lv_at hl 0 rfl) ?_
      refine lv_iconst (v := zI 1) hx hb dX7_down_33 (by decide +kernel) ?_
      refine lz_isub hx hb dX7_down_34 ?_
      refine lv_iload_n hx hb dX7_down_35 rfl (lv_at hl 1 rfl) ?_
      refine lz_isub hx hb dX7_down_36 ?_
      refine lv_iload_n hx hb dX7_down_37 rfl (lv_at hl 0 rfl) ?_
      obtain ⟨k3, hf⟩ := zck_some hf
      refine lz_idiv hx hb k3 dX7_down_38 ?_
      refine lz_ineg hx hb dX7_down_39 ?_
      cases hf
      exact zreti hx hb hr hlocks hQ hH ⟨rfl, hbg⟩ dX7_down_40
    · replace hf := (if_neg c2).symm.trans hf
      refine lv_iload_n hx hb dX7_down_26 rfl (lv_at hl 1 rfl) ?_
      refine lv_iload_n hx hb dX7_down_27 rfl (lv_at hl 0 rfl) ?_
      obtain ⟨k4, hf⟩ := zck_some hf
      refine lz_idiv hx hb k4 dX7_down_28 ?_
      refine lv_goto (tgt := 40) hx hb dX7_down_29 (by decide) ?_
      cases hf
      exact zreti hx hb hr hlocks hQ hH ⟨rfl, hbg⟩ dX7_down_40
  have J10 : ∀ (x1 : Int) (s0 : Int) (σ : Nat → va_E) (H : Heap) (locs : List Loc) (hH : zH D ad N (zFr ad N s.heap.size) s.heap σ H locs)  (hbg : σ = σ0) (ls : Array Slot) (hl : lv_has ls 4 [(1, .int (zI x1))]), f_X7_down_10 x1 s0 = some R0 → W p l e rmX7_down s m args below meth c H locs 0 0 Q (F0 m 10 ls [.int (zI s0)]) := by
    intro x1 s0 σ H locs hH  hbg ls hl hf
    unfold f_X7_down_10 at hf
    refine lv_istore_n (lv' := [(2, .int (zI s0)), (1, .int (zI x1))]) hx hb dX7_down_10 rfl hl (by decide) rfl (fun ls hl => ?_)
    refine lv_iload_n hx hb dX7_down_11 rfl (lv_at hl 1 rfl) ?_
    obtain ⟨k5, hf⟩ := zck_some hf
    refine lz_if_ge (tgt := 20) hx hb k5 dX7_down_12 (by decide) (fun c6 => ?_) (fun c6 => ?_)
    · replace hf := (if_pos c6).symm.trans hf
      refine lv_iload_n hx hb dX7_down_20 rfl (lv_at hl 1 rfl) ?_
      exact J21 s0 x1 _ _ _ hH hbg _ (lv_sub hl [0] rfl) hf
    · replace hf := (if_neg c6).symm.trans hf
      refine lv_iload_n hx hb dX7_down_15 rfl (lv_at hl 1 rfl) ?_
      refine lz_ineg hx hb dX7_down_16 ?_
      refine lv_goto (tgt := 21) hx hb dX7_down_17 (by decide) ?_
      exact J21 s0 (-x1) _ _ _ hH hbg _ (lv_sub hl [0] rfl) hf
  unfold f_X7_down at hf
  refine lv_iload_n hx hb dX7_down_0 rfl (lv_at hl 1 rfl) ?_
  obtain ⟨k7, hf⟩ := zck_some hf
  refine lz_if_ge (tgt := 9) hx hb k7 dX7_down_1 (by decide) (fun c8 => ?_) (fun c8 => ?_)
  · replace hf := (if_pos c8).symm.trans hf
    refine lv_iload_n hx hb dX7_down_9 rfl (lv_at hl 0 rfl) ?_
    exact J10 p1 p0 _ _ _ hH hbg _ (lv_sub hl [1] rfl) hf
  · replace hf := (if_neg c8).symm.trans hf
    refine lv_iload_n hx hb dX7_down_4 rfl (lv_at hl 0 rfl) ?_
    refine lz_ineg hx hb dX7_down_5 ?_
    refine lv_goto (tgt := 10) hx hb dX7_down_6 (by decide) ?_
    exact J10 p1 (-p0) _ _ _ hH hbg _ (lv_sub hl [1] rfl) hf
abbrev rmX7_isField : Room := { frames := 1, cells := 0, slots := 0, locals := 22 }
theorem hd_X7_isField : yX7_isField.cls = RX7 ∧ yX7_isField.cls ≠ "java/lang/invoke/MethodHandle" ∧ yX7_isField.cls ≠ "java/lang/invoke/VarHandle" ∧ (parseMethodDescriptor yX7_isField.desc).map (fun d => d.parameters.length) = some 1 := by decide +kernel
set_option maxHeartbeats 4000000 in
set_option maxRecDepth 100000 in
theorem c_X7_isField {l : Launch} {D : va_G} {cI cZ cF cL cD : ClassId} {ad : Nat → Nat} {N : Nat} (hI : ∀ i j, i < N → j < N → ad i = ad j → i = j) (hN : 46 ≤ N) {σ0 : Nat → va_E} {sz : Nat} {mo_fields : Int} {mo_bound : Int} {mo_points : Int} {mo_crossings : Int} {mo_isKnown : Int} {mo_commands : Int} {mo_needleX : Int} {mo_needleY : Int} {mo_hasFile : Int} {mo_format : Int} {mo_length : Int} {mo_heads : Int} {mo_late : Int} {mo_ran : Int} {mo_program : Int} {mo_thrown : Int} {mo_rowY : Int} {mo_stitches : Int} {p1 : Int} {R0 : Int} (h_mo : σ0 19 = oC_mo ad mo_fields mo_bound mo_points mo_crossings mo_isKnown mo_commands mo_needleX mo_needleY mo_hasFile mo_format mo_length mo_heads mo_late mo_ran mo_program mo_thrown mo_rowY mo_stitches) (hf : f_X7_isField mo_fields p1 = some R0) :
    Met l yX7_isField (Cond.code yX7_isField cX7_isField 2 (some .boolean) :: wsL_law) rmX7_isField (zPre D ad N (zT cI cZ cF cL cD) σ0 sz [.ref (ad 19), .int (zI p1)]) (zQi D ad N sz (fun r σ' => r = zI R0 ∧ σ' = σ0)) 0 0 (zFr ad N sz) := by
  refine zMet hI (plainFor_of_name (by decide)) (Nat.le_of_ble_eq_true rfl) ⟨rfl, rfl⟩ ?_
  intro p e s m args below meth c Q hx hb hr hlocks hml hown hts hK hsz hQ hH hA ls hl
  subst hsz
  have hk_mo : 19 < N := by omega
  have hl : lv_has ls 2 [(0, .ref (ad 19)), (1, .int (zI p1))] := hl
  have hbg : σ0 = σ0 := rfl
  unfold f_X7_isField at hf
  refine lv_iload_n hx hb dX7_isField_0 rfl (lv_at hl 1 rfl) ?_
  refine lv_iconst (v := zI 0) hx hb dX7_isField_1 (by decide +kernel) ?_
  refine lv_aload_n hx hb dX7_isField_2 rfl (lv_at hl 0 rfl) ?_
  refine zget hx hb inlX7 rfl 0 rfl zk_t4_113 hts hown hK hH hk_mo h_mo rfl dX7_isField_3 ?_
  refine lv_iconst (v := zI 1) hx hb dX7_isField_6 (by decide +kernel) ?_
  refine lz_isub hx hb dX7_isField_7 ?_
  obtain ⟨r1, k2, hf⟩ := zb1_some hf
  refine zcSi (As := [.int (zI p1), .int (zI 0), .int (zI (mo_fields - 1))]) (rest := []) hx hb hml hown hts hl.1 hK hH hA (c_X7_in hI hN   k2) zk_t5_8 zk_t5_9 zk_t1_6 zk_t5_10 hd_X7_in rfl ⟨rfl, rfl, Nat.le_of_ble_eq_true rfl, Nat.le_of_ble_eq_true rfl⟩ ⟨Nat.zero_le _, Nat.zero_le _⟩ rfl (Nat.le_of_ble_eq_true rfl) dX7_isField_8 (fun q4 σ3 Hσ3 lσ3 hp hH => ?_)
  obtain ⟨hr1, hs1⟩ := hp; subst hr1; rw [hs1] at hH
  obtain ⟨k5, hf⟩ := zck_some hf
  cases hf
  exact zretz hx hb hr hlocks hQ hH ⟨rfl, hbg⟩ (z_nar _ k5) dX7_isField_11
abbrev rmX7_field : Room := { frames := 1, cells := 0, slots := 0, locals := 22 }
theorem hd_X7_field : yX7_field.cls = RX7 ∧ yX7_field.cls ≠ "java/lang/invoke/MethodHandle" ∧ yX7_field.cls ≠ "java/lang/invoke/VarHandle" ∧ (parseMethodDescriptor yX7_field.desc).map (fun d => d.parameters.length) = some 3 := by decide +kernel
set_option maxHeartbeats 4000000 in
set_option maxRecDepth 100000 in
theorem c_X7_field {l : Launch} {D : va_G} {cI cZ cF cL cD : ClassId} {ad : Nat → Nat} {N : Nat} (hI : ∀ i j, i < N → j < N → ad i = ad j → i = j) (hN : 46 ≤ N) {σ0 : Nat → va_E} {sz : Nat} {mo_fields : Int} {mo_colour : Int → Int} {mo_layer : Int → Int} {mo_isColumn : Int → Int} {mo_density : Int → Int} {mo_longest : Int → Int} {mo_bound : Int} {mo_points : Int} {mo_crossings : Int} {mo_isKnown : Int} {mo_commands : Int} {mo_needleX : Int} {mo_needleY : Int} {mo_hasFile : Int} {mo_format : Int} {mo_length : Int} {mo_heads : Int} {mo_late : Int} {mo_ran : Int} {mo_program : Int} {mo_thrown : Int} {mo_rowY : Int} {mo_stitches : Int} {p1 : Int} {p2 : Int} {p3 : Int} {R0 : Int} {R_mo_fields : Int} {R_mo_colour : Int → Int} {R_mo_layer : Int → Int} {R_mo_isColumn : Int → Int} {R_mo_density : Int → Int} {R_mo_longest : Int → Int} {R_mo_isKnown : Int} {R_mo_thrown : Int} (h_mo : σ0 19 = oC_mo ad mo_fields mo_bound mo_points mo_crossings mo_isKnown mo_commands mo_needleX mo_needleY mo_hasFile mo_format mo_length mo_heads mo_late mo_ran mo_program mo_thrown mo_rowY mo_stitches) (h_mo_colour : σ0 20 = .inl (cI, 8, .inl (zA mo_colour))) (h_mo_layer : σ0 21 = .inl (cI, 8, .inl (zA mo_layer))) (h_mo_isColumn : σ0 22 = .inl (cZ, 8, .inl (zA mo_isColumn))) (h_mo_density : σ0 26 = .inl (cI, 8, .inl (zA mo_density))) (h_mo_longest : σ0 27 = .inl (cI, 8, .inl (zA mo_longest))) (hf : f_X7_field mo_fields mo_colour mo_layer mo_isColumn mo_density mo_longest mo_isKnown mo_thrown p1 p2 p3 = some (R0, R_mo_fields, R_mo_colour, R_mo_layer, R_mo_isColumn, R_mo_density, R_mo_longest, R_mo_isKnown, R_mo_thrown)) :
    Met l yX7_field (Cond.code yX7_field cX7_field 4 (some .int) :: wsL_law) rmX7_field (zPre D ad N (zT cI cZ cF cL cD) σ0 sz [.ref (ad 19), .int (zI p1), .int (zI p2), .int (zI p3)]) (zQi D ad N sz (fun r σ' => r = zI R0 ∧ σ' 19 = oC_mo ad R_mo_fields mo_bound mo_points mo_crossings R_mo_isKnown mo_commands mo_needleX mo_needleY mo_hasFile mo_format mo_length mo_heads mo_late mo_ran mo_program R_mo_thrown mo_rowY mo_stitches ∧ σ' 20 = .inl (cI, 8, .inl (zA R_mo_colour)) ∧ σ' 21 = .inl (cI, 8, .inl (zA R_mo_layer)) ∧ σ' 22 = .inl (cZ, 8, .inl (zA R_mo_isColumn)) ∧ σ' 26 = .inl (cI, 8, .inl (zA R_mo_density)) ∧ σ' 27 = .inl (cI, 8, .inl (zA R_mo_longest)) ∧ ∀ i : Nat, i ≠ 19 → i ≠ 20 → i ≠ 21 → i ≠ 22 → i ≠ 26 → i ≠ 27 → σ' i = σ0 i)) 0 0 (zFr ad N sz) := by
  refine zMet hI (plainFor_of_name (by decide)) (Nat.le_of_ble_eq_true rfl) ⟨rfl, rfl⟩ ?_
  intro p e s m args below meth c Q hx hb hr hlocks hml hown hts hK hsz hQ hH hA ls hl
  subst hsz
  have hk_mo : 19 < N := by omega
  have hk_mo_colour : 20 < N := by omega
  have hk_mo_layer : 21 < N := by omega
  have hk_mo_isColumn : 22 < N := by omega
  have hk_mo_density : 26 < N := by omega
  have hk_mo_longest : 27 < N := by omega
  have hl : lv_has ls 4 [(0, .ref (ad 19)), (1, .int (zI p1)), (2, .int (zI p2)), (3, .int (zI p3))] := hl
  have hbg : ∀ i : Nat, i ≠ 19 → i ≠ 20 → i ≠ 21 → i ≠ 22 → i ≠ 26 → i ≠ 27 → σ0 i = σ0 i := fun _ _ _ _ _ _ _ => rfl
  have J24 : ∀ (mo_fields : Int) (mo_colour : Int → Int) (mo_layer : Int → Int) (mo_isColumn : Int → Int) (mo_density : Int → Int) (mo_longest : Int → Int) (mo_isKnown : Int) (mo_thrown : Int) (x1 : Int) (x2 : Int) (x3 : Int) (s1 : Int) (σ : Nat → va_E) (H : Heap) (locs : List Loc) (hH : zH D ad N (zFr ad N s.heap.size) s.heap σ H locs) (h_mo : σ 19 = oC_mo ad mo_fields mo_bound mo_points mo_crossings mo_isKnown mo_commands mo_needleX mo_needleY mo_hasFile mo_format mo_length mo_heads mo_late mo_ran mo_program mo_thrown mo_rowY mo_stitches) (h_mo_colour : σ 20 = .inl (cI, 8, .inl (zA mo_colour))) (h_mo_layer : σ 21 = .inl (cI, 8, .inl (zA mo_layer))) (h_mo_isColumn : σ 22 = .inl (cZ, 8, .inl (zA mo_isColumn))) (h_mo_density : σ 26 = .inl (cI, 8, .inl (zA mo_density))) (h_mo_longest : σ 27 = .inl (cI, 8, .inl (zA mo_longest))) (hbg : ∀ i : Nat, i ≠ 19 → i ≠ 20 → i ≠ 21 → i ≠ 22 → i ≠ 26 → i ≠ 27 → σ i = σ0 i) (ls : Array Slot) (hl : lv_has ls 4 [(0, .ref (ad 19)), (1, .int (zI x1)), (2, .int (zI x2)), (3, .int (zI x3))]), f_X7_field_24 mo_fields mo_colour mo_layer mo_isColumn mo_density mo_longest mo_isKnown mo_thrown x1 x2 x3 s1 = some (R0, R_mo_fields, R_mo_colour, R_mo_layer, R_mo_isColumn, R_mo_density, R_mo_longest, R_mo_isKnown, R_mo_thrown) → W p l e rmX7_field s m args below meth c H locs 0 0 Q (F0 m 24 ls [.int (zI s1), .ref (ad 19)]) := by
    intro mo_fields mo_colour mo_layer mo_isColumn mo_density mo_longest mo_isKnown mo_thrown x1 x2 x3 s1 σ H locs hH h_mo h_mo_colour h_mo_layer h_mo_isColumn h_mo_density h_mo_longest hbg ls hl hf
    unfold f_X7_field_24 at hf
    obtain ⟨r1, u2, k3, hf⟩ := zb2_some hf
    refine zcVi (C := RX7) (As := [.int (zI s1)]) (rest := []) hx hb hml hown hts hl.1 hK hH hA (c_X7_asks hI hN  h_mo k3) zk_t5_11 zk_t5_13 zk_s2_13 zk_t1_6 zk_t5_14 hd_X7_asks rfl ⟨rfl, rfl, Nat.le_of_ble_eq_true rfl, Nat.le_of_ble_eq_true rfl⟩ ⟨Nat.zero_le _, Nat.zero_le _⟩ hk_mo h_mo rfl rfl rfl (Nat.le_of_ble_eq_true rfl) dX7_field_24 (fun q5 σ4 Hσ4 lσ4 hp hH => ?_)
    obtain ⟨hr1, h_mo, hn⟩ := hp
    subst hr1
    have h_mo_colour := (hn 20 (by decide)).trans h_mo_colour
    have h_mo_layer := (hn 21 (by decide)).trans h_mo_layer
    have h_mo_isColumn := (hn 22 (by decide)).trans h_mo_isColumn
    have h_mo_density := (hn 26 (by decide)).trans h_mo_density
    have h_mo_longest := (hn 27 (by decide)).trans h_mo_longest
    have hbg : ∀ i : Nat, i ≠ 19 → i ≠ 20 → i ≠ 21 → i ≠ 22 → i ≠ 26 → i ≠ 27 → σ4 i = σ0 i := fun i a0 a1 a2 a3 a4 a5 => (hn i a0).trans (hbg i a0 a1 a2 a3 a4 a5)
    obtain ⟨k6, hf⟩ := zck_some hf
    refine lz_if_ne (tgt := 32) hx hb k6 dX7_field_27 (by decide) (fun c7 => ?_) (fun c7 => ?_)
    · replace hf := (if_neg c7).symm.trans hf
      refine lv_aload_n hx hb dX7_field_32 rfl (lv_at hl 0 rfl) ?_
      refine zget hx hb inlX7 rfl 0 rfl zk_t4_113 hts hown hK hH hk_mo h_mo rfl dX7_field_33 ?_
      refine lv_bipush (v := zI 8) hx hb dX7_field_36 (by decide +kernel) ?_
      obtain ⟨k8, hf⟩ := zck_some hf
      refine lz_icmp_ne (tgt := 47) hx hb ⟨k8, by decide⟩ dX7_field_38 (by decide) (fun c9 => ?_) (fun c9 => ?_)
      · replace hf := (if_neg c9).symm.trans hf
        refine lv_aload_n hx hb dX7_field_47 rfl (lv_at hl 0 rfl) ?_
        refine zget hx hb inlX7 rfl 1 rfl zk_t4_114 hts hown hK hH hk_mo h_mo rfl dX7_field_48 ?_
        refine lv_aload_n hx hb dX7_field_51 rfl (lv_at hl 0 rfl) ?_
        refine zget hx hb inlX7 rfl 0 rfl zk_t4_113 hts hown hK hH hk_mo h_mo rfl dX7_field_52 ?_
        refine lv_iload_n hx hb dX7_field_55 rfl (lv_at hl 1 rfl) ?_
        obtain ⟨k10, hf⟩ := zck_some hf
        obtain ⟨a12, ea12, hf⟩ := zlt_some hf
        refine ziast hx hb hK hH hk_mo_colour 0 h_mo_colour rfl k10 rfl dX7_field_56 (fun σ11 Hσ11 lσ11 h_mo_colour hn hH => ?_)
        rw [← ea12] at h_mo_colour
        have h_mo := (hn 19 (by decide)).trans h_mo
        have h_mo_layer := (hn 21 (by decide)).trans h_mo_layer
        have h_mo_isColumn := (hn 22 (by decide)).trans h_mo_isColumn
        have h_mo_density := (hn 26 (by decide)).trans h_mo_density
        have h_mo_longest := (hn 27 (by decide)).trans h_mo_longest
        have hbg : ∀ i : Nat, i ≠ 19 → i ≠ 20 → i ≠ 21 → i ≠ 22 → i ≠ 26 → i ≠ 27 → σ11 i = σ0 i := fun i a0 a1 a2 a3 a4 a5 => (hn i a1).trans (hbg i a0 a1 a2 a3 a4 a5)
        refine lv_aload_n hx hb dX7_field_57 rfl (lv_at hl 0 rfl) ?_
        refine zget hx hb inlX7 rfl 2 rfl zk_t4_115 hts hown hK hH hk_mo h_mo rfl dX7_field_58 ?_
        refine lv_aload_n hx hb dX7_field_61 rfl (lv_at hl 0 rfl) ?_
        refine zget hx hb inlX7 rfl 0 rfl zk_t4_113 hts hown hK hH hk_mo h_mo rfl dX7_field_62 ?_
        refine lv_iload_n hx hb dX7_field_65 rfl (lv_at hl 2 rfl) ?_
        obtain ⟨k13, hf⟩ := zck_some hf
        obtain ⟨a15, ea15, hf⟩ := zlt_some hf
        refine ziast hx hb hK hH hk_mo_layer 0 h_mo_layer rfl k13 rfl dX7_field_66 (fun σ14 Hσ14 lσ14 h_mo_layer hn hH => ?_)
        rw [← ea15] at h_mo_layer
        have h_mo := (hn 19 (by decide)).trans h_mo
        have h_mo_colour := (hn 20 (by decide)).trans h_mo_colour
        have h_mo_isColumn := (hn 22 (by decide)).trans h_mo_isColumn
        have h_mo_density := (hn 26 (by decide)).trans h_mo_density
        have h_mo_longest := (hn 27 (by decide)).trans h_mo_longest
        have hbg : ∀ i : Nat, i ≠ 19 → i ≠ 20 → i ≠ 21 → i ≠ 22 → i ≠ 26 → i ≠ 27 → σ14 i = σ0 i := fun i a0 a1 a2 a3 a4 a5 => (hn i a2).trans (hbg i a0 a1 a2 a3 a4 a5)
        refine lv_aload_n hx hb dX7_field_67 rfl (lv_at hl 0 rfl) ?_
        refine zget hx hb inlX7 rfl 3 rfl zk_t4_116 hts hown hK hH hk_mo h_mo rfl dX7_field_68 ?_
        refine lv_aload_n hx hb dX7_field_71 rfl (lv_at hl 0 rfl) ?_
        refine zget hx hb inlX7 rfl 0 rfl zk_t4_113 hts hown hK hH hk_mo h_mo rfl dX7_field_72 ?_
        refine lv_iload_n hx hb dX7_field_75 rfl (lv_at hl 3 rfl) ?_
        obtain ⟨k16, hf⟩ := zck_some hf
        obtain ⟨k17, hf⟩ := zck_some hf
        obtain ⟨a19, ea19, hf⟩ := zlt_some hf
        refine zzast hx hb hK hH hk_mo_isColumn 1 h_mo_isColumn rfl k16 k17 rfl dX7_field_76 (fun σ18 Hσ18 lσ18 h_mo_isColumn hn hH => ?_)
        rw [← ea19] at h_mo_isColumn
        have h_mo := (hn 19 (by decide)).trans h_mo
        have h_mo_colour := (hn 20 (by decide)).trans h_mo_colour
        have h_mo_layer := (hn 21 (by decide)).trans h_mo_layer
        have h_mo_density := (hn 26 (by decide)).trans h_mo_density
        have h_mo_longest := (hn 27 (by decide)).trans h_mo_longest
        have hbg : ∀ i : Nat, i ≠ 19 → i ≠ 20 → i ≠ 21 → i ≠ 22 → i ≠ 26 → i ≠ 27 → σ18 i = σ0 i := fun i a0 a1 a2 a3 a4 a5 => (hn i a3).trans (hbg i a0 a1 a2 a3 a4 a5)
        refine lv_aload_n hx hb dX7_field_77 rfl (lv_at hl 0 rfl) ?_
        refine zget hx hb inlX7 rfl 7 rfl zk_t4_120 hts hown hK hH hk_mo h_mo rfl dX7_field_78 ?_
        refine lv_aload_n hx hb dX7_field_81 rfl (lv_at hl 0 rfl) ?_
        refine zget hx hb inlX7 rfl 0 rfl zk_t4_113 hts hown hK hH hk_mo h_mo rfl dX7_field_82 ?_
        refine lv_iconst (v := zI 2) hx hb dX7_field_85 (by decide +kernel) ?_
        obtain ⟨k20, hf⟩ := zck_some hf
        obtain ⟨a22, ea22, hf⟩ := zlt_some hf
        refine ziast hx hb hK hH hk_mo_density 0 h_mo_density rfl k20 rfl dX7_field_86 (fun σ21 Hσ21 lσ21 h_mo_density hn hH => ?_)
        rw [← ea22] at h_mo_density
        have h_mo := (hn 19 (by decide)).trans h_mo
        have h_mo_colour := (hn 20 (by decide)).trans h_mo_colour
        have h_mo_layer := (hn 21 (by decide)).trans h_mo_layer
        have h_mo_isColumn := (hn 22 (by decide)).trans h_mo_isColumn
        have h_mo_longest := (hn 27 (by decide)).trans h_mo_longest
        have hbg : ∀ i : Nat, i ≠ 19 → i ≠ 20 → i ≠ 21 → i ≠ 22 → i ≠ 26 → i ≠ 27 → σ21 i = σ0 i := fun i a0 a1 a2 a3 a4 a5 => (hn i a4).trans (hbg i a0 a1 a2 a3 a4 a5)
        refine lv_aload_n hx hb dX7_field_87 rfl (lv_at hl 0 rfl) ?_
        refine zget hx hb inlX7 rfl 8 rfl zk_t4_121 hts hown hK hH hk_mo h_mo rfl dX7_field_88 ?_
        refine lv_aload_n hx hb dX7_field_91 rfl (lv_at hl 0 rfl) ?_
        refine zget hx hb inlX7 rfl 0 rfl zk_t4_113 hts hown hK hH hk_mo h_mo rfl dX7_field_92 ?_
        refine lv_bipush (v := zI 6) hx hb dX7_field_95 (by decide +kernel) ?_
        obtain ⟨k23, hf⟩ := zck_some hf
        obtain ⟨a25, ea25, hf⟩ := zlt_some hf
        refine ziast hx hb hK hH hk_mo_longest 0 h_mo_longest rfl k23 rfl dX7_field_97 (fun σ24 Hσ24 lσ24 h_mo_longest hn hH => ?_)
        rw [← ea25] at h_mo_longest
        have h_mo := (hn 19 (by decide)).trans h_mo
        have h_mo_colour := (hn 20 (by decide)).trans h_mo_colour
        have h_mo_layer := (hn 21 (by decide)).trans h_mo_layer
        have h_mo_isColumn := (hn 22 (by decide)).trans h_mo_isColumn
        have h_mo_density := (hn 26 (by decide)).trans h_mo_density
        have hbg : ∀ i : Nat, i ≠ 19 → i ≠ 20 → i ≠ 21 → i ≠ 22 → i ≠ 26 → i ≠ 27 → σ24 i = σ0 i := fun i a0 a1 a2 a3 a4 a5 => (hn i a5).trans (hbg i a0 a1 a2 a3 a4 a5)
        refine lv_aload_n hx hb dX7_field_98 rfl (lv_at hl 0 rfl) ?_
        refine lv_dup hx hb dX7_field_99 rfl ?_
        refine zget hx hb inlX7 rfl 0 rfl zk_t4_113 hts hown hK hH hk_mo h_mo rfl dX7_field_100 ?_
        refine lv_iconst (v := zI 1) hx hb dX7_field_103 (by decide +kernel) ?_
        refine lz_iadd hx hb dX7_field_104 ?_
        obtain ⟨v26, ev26, hf⟩ := zlt_some hf
        refine lz_nm ev26 ?_
        refine zput hx hb inlX7 tyX7 tyX7_ok nmX7 rfl 0 rfl zk_t4_113 rfl hts hown hK hH hk_mo h_mo rfl rfl rfl dX7_field_105 (fun σ27 Hσ27 lσ27 h_mo hn hH => ?_)
        have h_mo : σ27 19 = oC_mo ad v26 mo_bound mo_points mo_crossings mo_isKnown mo_commands mo_needleX mo_needleY mo_hasFile mo_format mo_length mo_heads mo_late mo_ran mo_program u2 mo_rowY mo_stitches := h_mo
        have h_mo_colour := (hn 20 (by decide)).trans h_mo_colour
        have h_mo_layer := (hn 21 (by decide)).trans h_mo_layer
        have h_mo_isColumn := (hn 22 (by decide)).trans h_mo_isColumn
        have h_mo_density := (hn 26 (by decide)).trans h_mo_density
        have h_mo_longest := (hn 27 (by decide)).trans h_mo_longest
        have hbg : ∀ i : Nat, i ≠ 19 → i ≠ 20 → i ≠ 21 → i ≠ 22 → i ≠ 26 → i ≠ 27 → σ27 i = σ0 i := fun i a0 a1 a2 a3 a4 a5 => (hn i a0).trans (hbg i a0 a1 a2 a3 a4 a5)
        refine lv_aload_n hx hb dX7_field_108 rfl (lv_at hl 0 rfl) ?_
        refine lv_iconst (v := zI 0) hx hb dX7_field_109 (by decide +kernel) ?_
        refine zput hx hb inlX7 tyX7 tyX7_ok nmX7 rfl 18 rfl zk_t4_131 rfl hts hown hK hH hk_mo h_mo (z_nar _ (Or.inl rfl)) (z_fit _ (Or.inl rfl)) rfl dX7_field_110 (fun σ28 Hσ28 lσ28 h_mo hn hH => ?_)
        have h_mo : σ28 19 = oC_mo ad v26 mo_bound mo_points mo_crossings 0 mo_commands mo_needleX mo_needleY mo_hasFile mo_format mo_length mo_heads mo_late mo_ran mo_program u2 mo_rowY mo_stitches := h_mo
        have h_mo_colour := (hn 20 (by decide)).trans h_mo_colour
        have h_mo_layer := (hn 21 (by decide)).trans h_mo_layer
        have h_mo_isColumn := (hn 22 (by decide)).trans h_mo_isColumn
        have h_mo_density := (hn 26 (by decide)).trans h_mo_density
        have h_mo_longest := (hn 27 (by decide)).trans h_mo_longest
        have hbg : ∀ i : Nat, i ≠ 19 → i ≠ 20 → i ≠ 21 → i ≠ 22 → i ≠ 26 → i ≠ 27 → σ28 i = σ0 i := fun i a0 a1 a2 a3 a4 a5 => (hn i a0).trans (hbg i a0 a1 a2 a3 a4 a5)
        refine lv_aload_n hx hb dX7_field_113 rfl (lv_at hl 0 rfl) ?_
        refine zget hx hb inlX7 rfl 0 rfl zk_t4_113 hts hown hK hH hk_mo h_mo rfl dX7_field_114 ?_
        refine lv_iconst (v := zI 1) hx hb dX7_field_117 (by decide +kernel) ?_
        refine lz_isub hx hb dX7_field_118 ?_
        cases hf
        exact zreti hx hb hr hlocks hQ hH ⟨rfl, h_mo, h_mo_colour, h_mo_layer, h_mo_isColumn, h_mo_density, h_mo_longest, hbg⟩ dX7_field_119
      · replace hf := (if_pos c9).symm.trans hf
        refine lv_aload_n hx hb dX7_field_41 rfl (lv_at hl 0 rfl) ?_
        refine lv_iconst (v := zI 2) hx hb dX7_field_42 (by decide +kernel) ?_
        obtain ⟨r29, u30, k31, hf⟩ := zb2_some hf
        refine zcVi (C := RX7) (As := [.int (zI 2)]) (rest := []) hx hb hml hown hts hl.1 hK hH hA (c_X7_fails hI hN  h_mo k31) zk_t5_15 zk_t5_17 zk_s2_14 zk_t1_6 zk_t5_18 hd_X7_fails rfl ⟨rfl, rfl, Nat.le_of_ble_eq_true rfl, Nat.le_of_ble_eq_true rfl⟩ ⟨Nat.zero_le _, Nat.zero_le _⟩ hk_mo h_mo rfl rfl rfl (Nat.le_of_ble_eq_true rfl) dX7_field_43 (fun q33 σ32 Hσ32 lσ32 hp hH => ?_)
        obtain ⟨hr1, h_mo, hn⟩ := hp
        subst hr1
        have h_mo_colour := (hn 20 (by decide)).trans h_mo_colour
        have h_mo_layer := (hn 21 (by decide)).trans h_mo_layer
        have h_mo_isColumn := (hn 22 (by decide)).trans h_mo_isColumn
        have h_mo_density := (hn 26 (by decide)).trans h_mo_density
        have h_mo_longest := (hn 27 (by decide)).trans h_mo_longest
        have hbg : ∀ i : Nat, i ≠ 19 → i ≠ 20 → i ≠ 21 → i ≠ 22 → i ≠ 26 → i ≠ 27 → σ32 i = σ0 i := fun i a0 a1 a2 a3 a4 a5 => (hn i a0).trans (hbg i a0 a1 a2 a3 a4 a5)
        cases hf
        exact zreti hx hb hr hlocks hQ hH ⟨rfl, h_mo, h_mo_colour, h_mo_layer, h_mo_isColumn, h_mo_density, h_mo_longest, hbg⟩ dX7_field_46
    · replace hf := (if_pos c7).symm.trans hf
      refine lv_iconst (v := zI 0) hx hb dX7_field_30 (by decide +kernel) ?_
      cases hf
      exact zreti hx hb hr hlocks hQ hH ⟨rfl, h_mo, h_mo_colour, h_mo_layer, h_mo_isColumn, h_mo_density, h_mo_longest, hbg⟩ dX7_field_31
  have J23 : ∀ (mo_fields : Int) (mo_colour : Int → Int) (mo_layer : Int → Int) (mo_isColumn : Int → Int) (mo_density : Int → Int) (mo_longest : Int → Int) (mo_isKnown : Int) (mo_thrown : Int) (x1 : Int) (x2 : Int) (x3 : Int) (σ : Nat → va_E) (H : Heap) (locs : List Loc) (hH : zH D ad N (zFr ad N s.heap.size) s.heap σ H locs) (h_mo : σ 19 = oC_mo ad mo_fields mo_bound mo_points mo_crossings mo_isKnown mo_commands mo_needleX mo_needleY mo_hasFile mo_format mo_length mo_heads mo_late mo_ran mo_program mo_thrown mo_rowY mo_stitches) (h_mo_colour : σ 20 = .inl (cI, 8, .inl (zA mo_colour))) (h_mo_layer : σ 21 = .inl (cI, 8, .inl (zA mo_layer))) (h_mo_isColumn : σ 22 = .inl (cZ, 8, .inl (zA mo_isColumn))) (h_mo_density : σ 26 = .inl (cI, 8, .inl (zA mo_density))) (h_mo_longest : σ 27 = .inl (cI, 8, .inl (zA mo_longest))) (hbg : ∀ i : Nat, i ≠ 19 → i ≠ 20 → i ≠ 21 → i ≠ 22 → i ≠ 26 → i ≠ 27 → σ i = σ0 i) (ls : Array Slot) (hl : lv_has ls 4 [(0, .ref (ad 19)), (1, .int (zI x1)), (2, .int (zI x2)), (3, .int (zI x3))]), f_X7_field_23 mo_fields mo_colour mo_layer mo_isColumn mo_density mo_longest mo_isKnown mo_thrown x1 x2 x3 = some (R0, R_mo_fields, R_mo_colour, R_mo_layer, R_mo_isColumn, R_mo_density, R_mo_longest, R_mo_isKnown, R_mo_thrown) → W p l e rmX7_field s m args below meth c H locs 0 0 Q (F0 m 23 ls [.ref (ad 19)]) := by
    intro mo_fields mo_colour mo_layer mo_isColumn mo_density mo_longest mo_isKnown mo_thrown x1 x2 x3 σ H locs hH h_mo h_mo_colour h_mo_layer h_mo_isColumn h_mo_density h_mo_longest hbg ls hl hf
    unfold f_X7_field_23 at hf
    refine lv_iconst (v := zI 0) hx hb dX7_field_23 (by decide +kernel) ?_
    exact J24 mo_fields mo_colour mo_layer mo_isColumn mo_density mo_longest mo_isKnown mo_thrown x1 x2 x3 0 _ _ _ hH h_mo h_mo_colour h_mo_layer h_mo_isColumn h_mo_density h_mo_longest hbg _ (lv_sub hl [0, 1, 2, 3] rfl) hf
  unfold f_X7_field at hf
  refine lv_aload_n hx hb dX7_field_0 rfl (lv_at hl 0 rfl) ?_
  refine lv_iload_n hx hb dX7_field_1 rfl (lv_at hl 1 rfl) ?_
  refine lv_iconst (v := zI 0) hx hb dX7_field_2 (by decide +kernel) ?_
  refine lv_iconst (v := zI 5) hx hb dX7_field_3 (by decide +kernel) ?_
  obtain ⟨r34, k35, hf⟩ := zb1_some hf
  refine zcSi (As := [.int (zI p1), .int (zI 0), .int (zI 5)]) (rest := [.ref (ad 19)]) hx hb hml hown hts hl.1 hK hH hA (c_X7_in hI hN   k35) zk_t5_8 zk_t5_9 zk_t1_6 zk_t5_10 hd_X7_in rfl ⟨rfl, rfl, Nat.le_of_ble_eq_true rfl, Nat.le_of_ble_eq_true rfl⟩ ⟨Nat.zero_le _, Nat.zero_le _⟩ rfl (Nat.le_of_ble_eq_true rfl) dX7_field_4 (fun q37 σ36 Hσ36 lσ36 hp hH => ?_)
  obtain ⟨hr1, hs1⟩ := hp; subst hr1; rw [hs1] at hH
  obtain ⟨k38, hf⟩ := zck_some hf
  refine lz_if_eq (tgt := 23) hx hb k38 dX7_field_7 (by decide) (fun c39 => ?_) (fun c39 => ?_)
  · replace hf := (if_pos c39).symm.trans hf
    exact J23 mo_fields mo_colour mo_layer mo_isColumn mo_density mo_longest mo_isKnown mo_thrown p1 p2 p3 _ _ _ hH h_mo h_mo_colour h_mo_layer h_mo_isColumn h_mo_density h_mo_longest hbg _ (lv_sub hl [0, 1, 2, 3] rfl) hf
  · replace hf := (if_neg c39).symm.trans hf
    refine lv_iload_n hx hb dX7_field_10 rfl (lv_at hl 2 rfl) ?_
    refine lv_iconst (v := zI 0) hx hb dX7_field_11 (by decide +kernel) ?_
    refine lv_iconst (v := zI 3) hx hb dX7_field_12 (by decide +kernel) ?_
    obtain ⟨r40, k41, hf⟩ := zb1_some hf
    refine zcSi (As := [.int (zI p2), .int (zI 0), .int (zI 3)]) (rest := [.ref (ad 19)]) hx hb hml hown hts hl.1 hK hH hA (c_X7_in hI hN   k41) zk_t5_8 zk_t5_9 zk_t1_6 zk_t5_10 hd_X7_in rfl ⟨rfl, rfl, Nat.le_of_ble_eq_true rfl, Nat.le_of_ble_eq_true rfl⟩ ⟨Nat.zero_le _, Nat.zero_le _⟩ rfl (Nat.le_of_ble_eq_true rfl) dX7_field_13 (fun q43 σ42 Hσ42 lσ42 hp hH => ?_)
    obtain ⟨hr1, hs1⟩ := hp; subst hr1; rw [hs1] at hH
    obtain ⟨k44, hf⟩ := zck_some hf
    refine lz_if_eq (tgt := 23) hx hb k44 dX7_field_16 (by decide) (fun c45 => ?_) (fun c45 => ?_)
    · replace hf := (if_pos c45).symm.trans hf
      exact J23 mo_fields mo_colour mo_layer mo_isColumn mo_density mo_longest mo_isKnown mo_thrown p1 p2 p3 _ _ _ hH h_mo h_mo_colour h_mo_layer h_mo_isColumn h_mo_density h_mo_longest hbg _ (lv_sub hl [0, 1, 2, 3] rfl) hf
    · replace hf := (if_neg c45).symm.trans hf
      refine lv_iconst (v := zI 1) hx hb dX7_field_19 (by decide +kernel) ?_
      refine lv_goto (tgt := 24) hx hb dX7_field_20 (by decide) ?_
      exact J24 mo_fields mo_colour mo_layer mo_isColumn mo_density mo_longest mo_isKnown mo_thrown p1 p2 p3 1 _ _ _ hH h_mo h_mo_colour h_mo_layer h_mo_isColumn h_mo_density h_mo_longest hbg _ (lv_sub hl [0, 1, 2, 3] rfl) hf
abbrev rmX7_corner : Room := { frames := 2, cells := 0, slots := 0, locals := 43 }
theorem hd_X7_corner : yX7_corner.cls = RX7 ∧ yX7_corner.cls ≠ "java/lang/invoke/MethodHandle" ∧ yX7_corner.cls ≠ "java/lang/invoke/VarHandle" ∧ (parseMethodDescriptor yX7_corner.desc).map (fun d => d.parameters.length) = some 3 := by decide +kernel
set_option maxHeartbeats 4000000 in
set_option maxRecDepth 100000 in
theorem c_X7_corner {l : Launch} {D : va_G} {cI cZ cF cL cD : ClassId} {ad : Nat → Nat} {N : Nat} (hI : ∀ i j, i < N → j < N → ad i = ad j → i = j) (hN : 46 ≤ N) {σ0 : Nat → va_E} {sz : Nat} {mo_fields : Int} {mo_isColumn : Int → Int} {mo_corners : Int → Int} {mo_cornerX : Int → Int} {mo_cornerY : Int → Int} {mo_bound : Int} {mo_points : Int} {mo_crossings : Int} {mo_isKnown : Int} {mo_commands : Int} {mo_needleX : Int} {mo_needleY : Int} {mo_hasFile : Int} {mo_format : Int} {mo_length : Int} {mo_heads : Int} {mo_late : Int} {mo_ran : Int} {mo_program : Int} {mo_thrown : Int} {mo_rowY : Int} {mo_stitches : Int} {p1 : Int} {p2 : Int} {p3 : Int} {R0 : Int} {R_mo_corners : Int → Int} {R_mo_cornerX : Int → Int} {R_mo_cornerY : Int → Int} {R_mo_isKnown : Int} {R_mo_thrown : Int} (h_mo : σ0 19 = oC_mo ad mo_fields mo_bound mo_points mo_crossings mo_isKnown mo_commands mo_needleX mo_needleY mo_hasFile mo_format mo_length mo_heads mo_late mo_ran mo_program mo_thrown mo_rowY mo_stitches) (h_mo_isColumn : σ0 22 = .inl (cZ, 8, .inl (zA mo_isColumn))) (h_mo_corners : σ0 23 = .inl (cI, 8, .inl (zA mo_corners))) (h_mo_cornerX : σ0 24 = .inl (cI, 64, .inl (zA mo_cornerX))) (h_mo_cornerY : σ0 25 = .inl (cI, 64, .inl (zA mo_cornerY))) (hf : f_X7_corner mo_fields mo_isColumn mo_corners mo_cornerX mo_cornerY mo_isKnown mo_thrown p1 p2 p3 = some (R0, R_mo_corners, R_mo_cornerX, R_mo_cornerY, R_mo_isKnown, R_mo_thrown)) :
    Met l yX7_corner (Cond.code yX7_corner cX7_corner 4 (some .int) :: wsL_law) rmX7_corner (zPre D ad N (zT cI cZ cF cL cD) σ0 sz [.ref (ad 19), .int (zI p1), .int (zI p2), .int (zI p3)]) (zQi D ad N sz (fun r σ' => r = zI R0 ∧ σ' 19 = oC_mo ad mo_fields mo_bound mo_points mo_crossings R_mo_isKnown mo_commands mo_needleX mo_needleY mo_hasFile mo_format mo_length mo_heads mo_late mo_ran mo_program R_mo_thrown mo_rowY mo_stitches ∧ σ' 23 = .inl (cI, 8, .inl (zA R_mo_corners)) ∧ σ' 24 = .inl (cI, 64, .inl (zA R_mo_cornerX)) ∧ σ' 25 = .inl (cI, 64, .inl (zA R_mo_cornerY)) ∧ ∀ i : Nat, i ≠ 19 → i ≠ 23 → i ≠ 24 → i ≠ 25 → σ' i = σ0 i)) 0 0 (zFr ad N sz) := by
  refine zMet hI (plainFor_of_name (by decide)) (Nat.le_of_ble_eq_true rfl) ⟨rfl, rfl⟩ ?_
  intro p e s m args below meth c Q hx hb hr hlocks hml hown hts hK hsz hQ hH hA ls hl
  subst hsz
  have hk_mo : 19 < N := by omega
  have hk_mo_isColumn : 22 < N := by omega
  have hk_mo_corners : 23 < N := by omega
  have hk_mo_cornerX : 24 < N := by omega
  have hk_mo_cornerY : 25 < N := by omega
  have hl : lv_has ls 4 [(0, .ref (ad 19)), (1, .int (zI p1)), (2, .int (zI p2)), (3, .int (zI p3))] := hl
  have hbg : ∀ i : Nat, i ≠ 19 → i ≠ 23 → i ≠ 24 → i ≠ 25 → σ0 i = σ0 i := fun _ _ _ _ _ => rfl
  have J61 : ∀ (mo_corners : Int → Int) (mo_cornerX : Int → Int) (mo_cornerY : Int → Int) (mo_isKnown : Int) (mo_thrown : Int) (x1 : Int) (x2 : Int) (x3 : Int) (s0 : Int) (s1 : Int) (σ : Nat → va_E) (H : Heap) (locs : List Loc) (hH : zH D ad N (zFr ad N s.heap.size) s.heap σ H locs) (h_mo : σ 19 = oC_mo ad mo_fields mo_bound mo_points mo_crossings mo_isKnown mo_commands mo_needleX mo_needleY mo_hasFile mo_format mo_length mo_heads mo_late mo_ran mo_program mo_thrown mo_rowY mo_stitches) (h_mo_isColumn : σ 22 = .inl (cZ, 8, .inl (zA mo_isColumn))) (h_mo_corners : σ 23 = .inl (cI, 8, .inl (zA mo_corners))) (h_mo_cornerX : σ 24 = .inl (cI, 64, .inl (zA mo_cornerX))) (h_mo_cornerY : σ 25 = .inl (cI, 64, .inl (zA mo_cornerY))) (hbg : ∀ i : Nat, i ≠ 19 → i ≠ 23 → i ≠ 24 → i ≠ 25 → σ i = σ0 i) (ls : Array Slot) (hl : lv_has ls 4 [(0, .ref (ad 19)), (1, .int (zI x1)), (2, .int (zI x2)), (3, .int (zI x3))]), f_X7_corner_61 mo_fields mo_isColumn mo_corners mo_cornerX mo_cornerY mo_isKnown mo_thrown x1 x2 x3 s0 s1 = some (R0, R_mo_corners, R_mo_cornerX, R_mo_cornerY, R_mo_isKnown, R_mo_thrown) → W p l e rmX7_corner s m args below meth c H locs 0 0 Q (F0 m 61 ls [.int (zI s1), .int (zI s0)]) := by
    intro mo_corners mo_cornerX mo_cornerY mo_isKnown mo_thrown x1 x2 x3 s0 s1 σ H locs hH h_mo h_mo_isColumn h_mo_corners h_mo_cornerX h_mo_cornerY hbg ls hl hf
    unfold f_X7_corner_61 at hf
    obtain ⟨k1, hf⟩ := zck_some hf
    refine lz_icmp_ne (tgt := 70) hx hb k1 dX7_corner_61 (by decide) (fun c2 => ?_) (fun c2 => ?_)
    · replace hf := (if_neg c2).symm.trans hf
      refine lv_aload_n hx hb dX7_corner_70 rfl (lv_at hl 0 rfl) ?_
      refine zget hx hb inlX7 rfl 5 rfl zk_t4_118 hts hown hK hH hk_mo h_mo rfl dX7_corner_71 ?_
      refine lv_bipush (v := zI 8) hx hb dX7_corner_74 (by decide +kernel) ?_
      refine lv_iload_n hx hb dX7_corner_76 rfl (lv_at hl 1 rfl) ?_
      refine lz_imul hx hb dX7_corner_77 ?_
      refine lv_aload_n hx hb dX7_corner_78 rfl (lv_at hl 0 rfl) ?_
      refine zget hx hb inlX7 rfl 4 rfl zk_t4_117 hts hown hK hH hk_mo h_mo rfl dX7_corner_79 ?_
      refine lv_iload_n hx hb dX7_corner_82 rfl (lv_at hl 1 rfl) ?_
      obtain ⟨k3, hf⟩ := zck_some hf
      refine ziald hx hb hK hH hk_mo_corners 0 h_mo_corners rfl k3 rfl dX7_corner_83 ?_
      refine lz_iadd hx hb dX7_corner_84 ?_
      refine lv_iload_n hx hb dX7_corner_85 rfl (lv_at hl 2 rfl) ?_
      obtain ⟨k4, hf⟩ := zck_some hf
      obtain ⟨a6, ea6, hf⟩ := zlt_some hf
      refine ziast hx hb hK hH hk_mo_cornerX 0 h_mo_cornerX rfl k4 rfl dX7_corner_86 (fun σ5 Hσ5 lσ5 h_mo_cornerX hn hH => ?_)
      rw [← ea6] at h_mo_cornerX
      have h_mo := (hn 19 (by decide)).trans h_mo
      have h_mo_isColumn := (hn 22 (by decide)).trans h_mo_isColumn
      have h_mo_corners := (hn 23 (by decide)).trans h_mo_corners
      have h_mo_cornerY := (hn 25 (by decide)).trans h_mo_cornerY
      have hbg : ∀ i : Nat, i ≠ 19 → i ≠ 23 → i ≠ 24 → i ≠ 25 → σ5 i = σ0 i := fun i a0 a1 a2 a3 => (hn i a2).trans (hbg i a0 a1 a2 a3)
      refine lv_aload_n hx hb dX7_corner_87 rfl (lv_at hl 0 rfl) ?_
      refine zget hx hb inlX7 rfl 6 rfl zk_t4_119 hts hown hK hH hk_mo h_mo rfl dX7_corner_88 ?_
      refine lv_bipush (v := zI 8) hx hb dX7_corner_91 (by decide +kernel) ?_
      refine lv_iload_n hx hb dX7_corner_93 rfl (lv_at hl 1 rfl) ?_
      refine lz_imul hx hb dX7_corner_94 ?_
      refine lv_aload_n hx hb dX7_corner_95 rfl (lv_at hl 0 rfl) ?_
      refine zget hx hb inlX7 rfl 4 rfl zk_t4_117 hts hown hK hH hk_mo h_mo rfl dX7_corner_96 ?_
      refine lv_iload_n hx hb dX7_corner_99 rfl (lv_at hl 1 rfl) ?_
      obtain ⟨k7, hf⟩ := zck_some hf
      refine ziald hx hb hK hH hk_mo_corners 0 h_mo_corners rfl k7 rfl dX7_corner_100 ?_
      refine lz_iadd hx hb dX7_corner_101 ?_
      refine lv_iload_n hx hb dX7_corner_102 rfl (lv_at hl 3 rfl) ?_
      obtain ⟨k8, hf⟩ := zck_some hf
      obtain ⟨a10, ea10, hf⟩ := zlt_some hf
      refine ziast hx hb hK hH hk_mo_cornerY 0 h_mo_cornerY rfl k8 rfl dX7_corner_103 (fun σ9 Hσ9 lσ9 h_mo_cornerY hn hH => ?_)
      rw [← ea10] at h_mo_cornerY
      have h_mo := (hn 19 (by decide)).trans h_mo
      have h_mo_isColumn := (hn 22 (by decide)).trans h_mo_isColumn
      have h_mo_corners := (hn 23 (by decide)).trans h_mo_corners
      have h_mo_cornerX := (hn 24 (by decide)).trans h_mo_cornerX
      have hbg : ∀ i : Nat, i ≠ 19 → i ≠ 23 → i ≠ 24 → i ≠ 25 → σ9 i = σ0 i := fun i a0 a1 a2 a3 => (hn i a3).trans (hbg i a0 a1 a2 a3)
      refine lv_aload_n hx hb dX7_corner_104 rfl (lv_at hl 0 rfl) ?_
      refine zget hx hb inlX7 rfl 4 rfl zk_t4_117 hts hown hK hH hk_mo h_mo rfl dX7_corner_105 ?_
      refine lv_iload_n hx hb dX7_corner_108 rfl (lv_at hl 1 rfl) ?_
      refine lv_dup2_11 hx hb dX7_corner_109 rfl rfl ?_
      obtain ⟨k11, hf⟩ := zck_some hf
      refine ziald hx hb hK hH hk_mo_corners 0 h_mo_corners rfl k11 rfl dX7_corner_110 ?_
      refine lv_iconst (v := zI 1) hx hb dX7_corner_111 (by decide +kernel) ?_
      refine lz_iadd hx hb dX7_corner_112 ?_
      obtain ⟨k12, hf⟩ := zck_some hf
      obtain ⟨a14, ea14, hf⟩ := zlt_some hf
      refine ziast hx hb hK hH hk_mo_corners 0 h_mo_corners rfl k12 rfl dX7_corner_113 (fun σ13 Hσ13 lσ13 h_mo_corners hn hH => ?_)
      rw [← ea14] at h_mo_corners
      have h_mo := (hn 19 (by decide)).trans h_mo
      have h_mo_isColumn := (hn 22 (by decide)).trans h_mo_isColumn
      have h_mo_cornerX := (hn 24 (by decide)).trans h_mo_cornerX
      have h_mo_cornerY := (hn 25 (by decide)).trans h_mo_cornerY
      have hbg : ∀ i : Nat, i ≠ 19 → i ≠ 23 → i ≠ 24 → i ≠ 25 → σ13 i = σ0 i := fun i a0 a1 a2 a3 => (hn i a1).trans (hbg i a0 a1 a2 a3)
      refine lv_aload_n hx hb dX7_corner_114 rfl (lv_at hl 0 rfl) ?_
      refine lv_iconst (v := zI 0) hx hb dX7_corner_115 (by decide +kernel) ?_
      refine zput hx hb inlX7 tyX7 tyX7_ok nmX7 rfl 18 rfl zk_t4_131 rfl hts hown hK hH hk_mo h_mo (z_nar _ (Or.inl rfl)) (z_fit _ (Or.inl rfl)) rfl dX7_corner_116 (fun σ15 Hσ15 lσ15 h_mo hn hH => ?_)
      have h_mo : σ15 19 = oC_mo ad mo_fields mo_bound mo_points mo_crossings 0 mo_commands mo_needleX mo_needleY mo_hasFile mo_format mo_length mo_heads mo_late mo_ran mo_program mo_thrown mo_rowY mo_stitches := h_mo
      have h_mo_isColumn := (hn 22 (by decide)).trans h_mo_isColumn
      have h_mo_corners := (hn 23 (by decide)).trans h_mo_corners
      have h_mo_cornerX := (hn 24 (by decide)).trans h_mo_cornerX
      have h_mo_cornerY := (hn 25 (by decide)).trans h_mo_cornerY
      have hbg : ∀ i : Nat, i ≠ 19 → i ≠ 23 → i ≠ 24 → i ≠ 25 → σ15 i = σ0 i := fun i a0 a1 a2 a3 => (hn i a0).trans (hbg i a0 a1 a2 a3)
      refine lv_aload_n hx hb dX7_corner_119 rfl (lv_at hl 0 rfl) ?_
      refine zget hx hb inlX7 rfl 4 rfl zk_t4_117 hts hown hK hH hk_mo h_mo rfl dX7_corner_120 ?_
      refine lv_iload_n hx hb dX7_corner_123 rfl (lv_at hl 1 rfl) ?_
      obtain ⟨k16, hf⟩ := zck_some hf
      refine ziald hx hb hK hH hk_mo_corners 0 h_mo_corners rfl k16 rfl dX7_corner_124 ?_
      cases hf
      exact zreti hx hb hr hlocks hQ hH ⟨rfl, h_mo, h_mo_corners, h_mo_cornerX, h_mo_cornerY, hbg⟩ dX7_corner_125
    · replace hf := (if_pos c2).symm.trans hf
      refine lv_aload_n hx hb dX7_corner_64 rfl (lv_at hl 0 rfl) ?_
      refine lv_iconst (v := zI 3) hx hb dX7_corner_65 (by decide +kernel) ?_
      obtain ⟨r17, u18, k19, hf⟩ := zb2_some hf
      refine zcVi (C := RX7) (As := [.int (zI 3)]) (rest := []) hx hb hml hown hts hl.1 hK hH hA (c_X7_fails hI hN  h_mo k19) zk_t5_15 zk_t5_17 zk_s2_14 zk_t1_6 zk_t5_18 hd_X7_fails rfl ⟨rfl, rfl, Nat.le_of_ble_eq_true rfl, Nat.le_of_ble_eq_true rfl⟩ ⟨Nat.zero_le _, Nat.zero_le _⟩ hk_mo h_mo rfl rfl rfl (Nat.le_of_ble_eq_true rfl) dX7_corner_66 (fun q21 σ20 Hσ20 lσ20 hp hH => ?_)
      obtain ⟨hr1, h_mo, hn⟩ := hp
      subst hr1
      have h_mo_isColumn := (hn 22 (by decide)).trans h_mo_isColumn
      have h_mo_corners := (hn 23 (by decide)).trans h_mo_corners
      have h_mo_cornerX := (hn 24 (by decide)).trans h_mo_cornerX
      have h_mo_cornerY := (hn 25 (by decide)).trans h_mo_cornerY
      have hbg : ∀ i : Nat, i ≠ 19 → i ≠ 23 → i ≠ 24 → i ≠ 25 → σ20 i = σ0 i := fun i a0 a1 a2 a3 => (hn i a0).trans (hbg i a0 a1 a2 a3)
      cases hf
      exact zreti hx hb hr hlocks hQ hH ⟨rfl, h_mo, h_mo_corners, h_mo_cornerX, h_mo_cornerY, hbg⟩ dX7_corner_69
  have J34 : ∀ (mo_corners : Int → Int) (mo_cornerX : Int → Int) (mo_cornerY : Int → Int) (mo_isKnown : Int) (mo_thrown : Int) (σ : Nat → va_E) (H : Heap) (locs : List Loc) (hH : zH D ad N (zFr ad N s.heap.size) s.heap σ H locs) (h_mo : σ 19 = oC_mo ad mo_fields mo_bound mo_points mo_crossings mo_isKnown mo_commands mo_needleX mo_needleY mo_hasFile mo_format mo_length mo_heads mo_late mo_ran mo_program mo_thrown mo_rowY mo_stitches) (h_mo_isColumn : σ 22 = .inl (cZ, 8, .inl (zA mo_isColumn))) (h_mo_corners : σ 23 = .inl (cI, 8, .inl (zA mo_corners))) (h_mo_cornerX : σ 24 = .inl (cI, 64, .inl (zA mo_cornerX))) (h_mo_cornerY : σ 25 = .inl (cI, 64, .inl (zA mo_cornerY))) (hbg : ∀ i : Nat, i ≠ 19 → i ≠ 23 → i ≠ 24 → i ≠ 25 → σ i = σ0 i) (ls : Array Slot) (hl : lv_has ls 4 [(0, .ref (ad 19))]), f_X7_corner_34 mo_fields mo_isColumn mo_corners mo_cornerX mo_cornerY mo_isKnown mo_thrown = some (R0, R_mo_corners, R_mo_cornerX, R_mo_cornerY, R_mo_isKnown, R_mo_thrown) → W p l e rmX7_corner s m args below meth c H locs 0 0 Q (F0 m 34 ls []) := by
    intro mo_corners mo_cornerX mo_cornerY mo_isKnown mo_thrown σ H locs hH h_mo h_mo_isColumn h_mo_corners h_mo_cornerX h_mo_cornerY hbg ls hl hf
    unfold f_X7_corner_34 at hf
    refine lv_aload_n hx hb dX7_corner_34 rfl (lv_at hl 0 rfl) ?_
    refine lv_iconst (v := zI 2) hx hb dX7_corner_35 (by decide +kernel) ?_
    obtain ⟨r22, u23, k24, hf⟩ := zb2_some hf
    refine zcVi (C := RX7) (As := [.int (zI 2)]) (rest := []) hx hb hml hown hts hl.1 hK hH hA (c_X7_fails hI hN  h_mo k24) zk_t5_15 zk_t5_17 zk_s2_14 zk_t1_6 zk_t5_18 hd_X7_fails rfl ⟨rfl, rfl, Nat.le_of_ble_eq_true rfl, Nat.le_of_ble_eq_true rfl⟩ ⟨Nat.zero_le _, Nat.zero_le _⟩ hk_mo h_mo rfl rfl rfl (Nat.le_of_ble_eq_true rfl) dX7_corner_36 (fun q26 σ25 Hσ25 lσ25 hp hH => ?_)
    obtain ⟨hr1, h_mo, hn⟩ := hp
    subst hr1
    have h_mo_isColumn := (hn 22 (by decide)).trans h_mo_isColumn
    have h_mo_corners := (hn 23 (by decide)).trans h_mo_corners
    have h_mo_cornerX := (hn 24 (by decide)).trans h_mo_cornerX
    have h_mo_cornerY := (hn 25 (by decide)).trans h_mo_cornerY
    have hbg : ∀ i : Nat, i ≠ 19 → i ≠ 23 → i ≠ 24 → i ≠ 25 → σ25 i = σ0 i := fun i a0 a1 a2 a3 => (hn i a0).trans (hbg i a0 a1 a2 a3)
    cases hf
    exact zreti hx hb hr hlocks hQ hH ⟨rfl, h_mo, h_mo_corners, h_mo_cornerX, h_mo_cornerY, hbg⟩ dX7_corner_39
  unfold f_X7_corner at hf
  refine lv_aload_n hx hb dX7_corner_0 rfl (lv_at hl 0 rfl) ?_
  refine lv_aload_n hx hb dX7_corner_1 rfl (lv_at hl 0 rfl) ?_
  refine lv_iload_n hx hb dX7_corner_2 rfl (lv_at hl 1 rfl) ?_
  obtain ⟨r27, k28, hf⟩ := zb1_some hf
  refine zcVi (C := RX7) (As := [.int (zI p1)]) (rest := [.ref (ad 19)]) hx hb hml hown hts hl.1 hK hH hA (c_X7_isField hI hN  h_mo k28) zk_t5_23 zk_t5_25 zk_s2_15 zk_t1_6 zk_t5_26 hd_X7_isField rfl ⟨rfl, rfl, Nat.le_of_ble_eq_true rfl, Nat.le_of_ble_eq_true rfl⟩ ⟨Nat.zero_le _, Nat.zero_le _⟩ hk_mo h_mo rfl rfl rfl (Nat.le_of_ble_eq_true rfl) dX7_corner_3 (fun q30 σ29 Hσ29 lσ29 hp hH => ?_)
  obtain ⟨hr1, hs1⟩ := hp; subst hr1; rw [hs1] at hH
  obtain ⟨r31, u32, k33, hf⟩ := zb2_some hf
  refine zcVi (C := RX7) (As := [.int (zI r27)]) (rest := []) hx hb hml hown hts hl.1 hK hH hA (c_X7_asks hI hN  h_mo k33) zk_t5_11 zk_t5_13 zk_s2_13 zk_t1_6 zk_t5_14 hd_X7_asks rfl ⟨rfl, rfl, Nat.le_of_ble_eq_true rfl, Nat.le_of_ble_eq_true rfl⟩ ⟨Nat.zero_le _, Nat.zero_le _⟩ hk_mo h_mo rfl rfl rfl (Nat.le_of_ble_eq_true rfl) dX7_corner_6 (fun q35 σ34 Hσ34 lσ34 hp hH => ?_)
  obtain ⟨hr1, h_mo, hn⟩ := hp
  subst hr1
  have h_mo_isColumn := (hn 22 (by decide)).trans h_mo_isColumn
  have h_mo_corners := (hn 23 (by decide)).trans h_mo_corners
  have h_mo_cornerX := (hn 24 (by decide)).trans h_mo_cornerX
  have h_mo_cornerY := (hn 25 (by decide)).trans h_mo_cornerY
  have hbg : ∀ i : Nat, i ≠ 19 → i ≠ 23 → i ≠ 24 → i ≠ 25 → σ34 i = σ0 i := fun i a0 a1 a2 a3 => (hn i a0).trans (hbg i a0 a1 a2 a3)
  obtain ⟨k36, hf⟩ := zck_some hf
  refine lz_if_ne (tgt := 14) hx hb k36 dX7_corner_9 (by decide) (fun c37 => ?_) (fun c37 => ?_)
  · replace hf := (if_neg c37).symm.trans hf
    refine lv_iload_n hx hb dX7_corner_14 rfl (lv_at hl 2 rfl) ?_
    refine lv_iconst (v := zI 0) hx hb dX7_corner_15 (by decide +kernel) ?_
    refine lv_bipush (v := zI 31) hx hb dX7_corner_16 (by decide +kernel) ?_
    obtain ⟨r38, k39, hf⟩ := zb1_some hf
    refine zcSi (As := [.int (zI p2), .int (zI 0), .int (zI 31)]) (rest := []) hx hb hml hown hts hl.1 hK hH hA (c_X7_in hI hN   k39) zk_t5_8 zk_t5_9 zk_t1_6 zk_t5_10 hd_X7_in rfl ⟨rfl, rfl, Nat.le_of_ble_eq_true rfl, Nat.le_of_ble_eq_true rfl⟩ ⟨Nat.zero_le _, Nat.zero_le _⟩ rfl (Nat.le_of_ble_eq_true rfl) dX7_corner_18 (fun q41 σ40 Hσ40 lσ40 hp hH => ?_)
    obtain ⟨hr1, hs1⟩ := hp; subst hr1; rw [hs1] at hH
    obtain ⟨k42, hf⟩ := zck_some hf
    refine lz_if_eq (tgt := 34) hx hb k42 dX7_corner_21 (by decide) (fun c43 => ?_) (fun c43 => ?_)
    · replace hf := (if_pos c43).symm.trans hf
      exact J34 mo_corners mo_cornerX mo_cornerY mo_isKnown u32 _ _ _ hH h_mo h_mo_isColumn h_mo_corners h_mo_cornerX h_mo_cornerY hbg _ (lv_sub hl [0] rfl) hf
    · replace hf := (if_neg c43).symm.trans hf
      refine lv_iload_n hx hb dX7_corner_24 rfl (lv_at hl 3 rfl) ?_
      refine lv_iconst (v := zI 0) hx hb dX7_corner_25 (by decide +kernel) ?_
      refine lv_bipush (v := zI 31) hx hb dX7_corner_26 (by decide +kernel) ?_
      obtain ⟨r44, k45, hf⟩ := zb1_some hf
      refine zcSi (As := [.int (zI p3), .int (zI 0), .int (zI 31)]) (rest := []) hx hb hml hown hts hl.1 hK hH hA (c_X7_in hI hN   k45) zk_t5_8 zk_t5_9 zk_t1_6 zk_t5_10 hd_X7_in rfl ⟨rfl, rfl, Nat.le_of_ble_eq_true rfl, Nat.le_of_ble_eq_true rfl⟩ ⟨Nat.zero_le _, Nat.zero_le _⟩ rfl (Nat.le_of_ble_eq_true rfl) dX7_corner_28 (fun q47 σ46 Hσ46 lσ46 hp hH => ?_)
      obtain ⟨hr1, hs1⟩ := hp; subst hr1; rw [hs1] at hH
      obtain ⟨k48, hf⟩ := zck_some hf
      refine lz_if_ne (tgt := 40) hx hb k48 dX7_corner_31 (by decide) (fun c49 => ?_) (fun c49 => ?_)
      · replace hf := (if_neg c49).symm.trans hf
        refine lv_aload_n hx hb dX7_corner_40 rfl (lv_at hl 0 rfl) ?_
        refine zget hx hb inlX7 rfl 4 rfl zk_t4_117 hts hown hK hH hk_mo h_mo rfl dX7_corner_41 ?_
        refine lv_iload_n hx hb dX7_corner_44 rfl (lv_at hl 1 rfl) ?_
        obtain ⟨k50, hf⟩ := zck_some hf
        refine ziald hx hb hK hH hk_mo_corners 0 h_mo_corners rfl k50 rfl dX7_corner_45 ?_
        refine lv_aload_n hx hb dX7_corner_46 rfl (lv_at hl 0 rfl) ?_
        refine zget hx hb inlX7 rfl 3 rfl zk_t4_116 hts hown hK hH hk_mo h_mo rfl dX7_corner_47 ?_
        refine lv_iload_n hx hb dX7_corner_50 rfl (lv_at hl 1 rfl) ?_
        obtain ⟨k51, hf⟩ := zck_some hf
        refine zzald hx hb hK hH hk_mo_isColumn 1 h_mo_isColumn rfl k51 rfl dX7_corner_51 ?_
        obtain ⟨k52, hf⟩ := zck_some hf
        refine lz_if_eq (tgt := 59) hx hb k52 dX7_corner_52 (by decide) (fun c53 => ?_) (fun c53 => ?_)
        · replace hf := (if_pos c53).symm.trans hf
          refine lv_bipush (v := zI 8) hx hb dX7_corner_59 (by decide +kernel) ?_
          exact J61 mo_corners mo_cornerX mo_cornerY mo_isKnown u32 p1 p2 p3 (mo_corners p1) 8 _ _ _ hH h_mo h_mo_isColumn h_mo_corners h_mo_cornerX h_mo_cornerY hbg _ (lv_sub hl [0, 1, 2, 3] rfl) hf
        · replace hf := (if_neg c53).symm.trans hf
          refine lv_iconst (v := zI 4) hx hb dX7_corner_55 (by decide +kernel) ?_
          refine lv_goto (tgt := 61) hx hb dX7_corner_56 (by decide) ?_
          exact J61 mo_corners mo_cornerX mo_cornerY mo_isKnown u32 p1 p2 p3 (mo_corners p1) 4 _ _ _ hH h_mo h_mo_isColumn h_mo_corners h_mo_cornerX h_mo_cornerY hbg _ (lv_sub hl [0, 1, 2, 3] rfl) hf
      · replace hf := (if_pos c49).symm.trans hf
        exact J34 mo_corners mo_cornerX mo_cornerY mo_isKnown u32 _ _ _ hH h_mo h_mo_isColumn h_mo_corners h_mo_cornerX h_mo_cornerY hbg _ (lv_sub hl [0] rfl) hf
  · replace hf := (if_pos c37).symm.trans hf
    refine lv_iconst (v := zI 0) hx hb dX7_corner_12 (by decide +kernel) ?_
    cases hf
    exact zreti hx hb hr hlocks hQ hH ⟨rfl, h_mo, h_mo_corners, h_mo_cornerX, h_mo_cornerY, hbg⟩ dX7_corner_13
abbrev rmX7_sew : Room := { frames := 2, cells := 0, slots := 0, locals := 43 }
theorem hd_X7_sew : yX7_sew.cls = RX7 ∧ yX7_sew.cls ≠ "java/lang/invoke/MethodHandle" ∧ yX7_sew.cls ≠ "java/lang/invoke/VarHandle" ∧ (parseMethodDescriptor yX7_sew.desc).map (fun d => d.parameters.length) = some 6 := by decide +kernel
set_option maxHeartbeats 4000000 in
set_option maxRecDepth 100000 in
theorem c_X7_sew {l : Launch} {D : va_G} {cI cZ cF cL cD : ClassId} {ad : Nat → Nat} {N : Nat} (hI : ∀ i j, i < N → j < N → ad i = ad j → i = j) (hN : 46 ≤ N) {σ0 : Nat → va_E} {sz : Nat} {mo_fields : Int} {mo_density : Int → Int} {mo_longest : Int → Int} {mo_shift : Int → Int} {mo_pull : Int → Int} {mo_hasUnderlay : Int → Int} {mo_bound : Int} {mo_points : Int} {mo_crossings : Int} {mo_isKnown : Int} {mo_commands : Int} {mo_needleX : Int} {mo_needleY : Int} {mo_hasFile : Int} {mo_format : Int} {mo_length : Int} {mo_heads : Int} {mo_late : Int} {mo_ran : Int} {mo_program : Int} {mo_thrown : Int} {mo_rowY : Int} {mo_stitches : Int} {p1 : Int} {p2 : Int} {p3 : Int} {p4 : Int} {p5 : Int} {p6 : Int} {R_mo_density : Int → Int} {R_mo_longest : Int → Int} {R_mo_shift : Int → Int} {R_mo_pull : Int → Int} {R_mo_hasUnderlay : Int → Int} {R_mo_isKnown : Int} {R_mo_thrown : Int} (h_mo : σ0 19 = oC_mo ad mo_fields mo_bound mo_points mo_crossings mo_isKnown mo_commands mo_needleX mo_needleY mo_hasFile mo_format mo_length mo_heads mo_late mo_ran mo_program mo_thrown mo_rowY mo_stitches) (h_mo_density : σ0 26 = .inl (cI, 8, .inl (zA mo_density))) (h_mo_longest : σ0 27 = .inl (cI, 8, .inl (zA mo_longest))) (h_mo_shift : σ0 28 = .inl (cI, 8, .inl (zA mo_shift))) (h_mo_pull : σ0 29 = .inl (cI, 8, .inl (zA mo_pull))) (h_mo_hasUnderlay : σ0 30 = .inl (cZ, 8, .inl (zA mo_hasUnderlay))) (hf : f_X7_sew mo_fields mo_density mo_longest mo_shift mo_pull mo_hasUnderlay mo_isKnown mo_thrown p1 p2 p3 p4 p5 p6 = some (R_mo_density, R_mo_longest, R_mo_shift, R_mo_pull, R_mo_hasUnderlay, R_mo_isKnown, R_mo_thrown)) :
    Met l yX7_sew (Cond.code yX7_sew cX7_sew 7 none :: wsL_law) rmX7_sew (zPre D ad N (zT cI cZ cF cL cD) σ0 sz [.ref (ad 19), .int (zI p1), .int (zI p2), .int (zI p3), .int (zI p4), .int (zI p5), .int (zI p6)]) (zQv D ad N sz (fun σ' => σ' 19 = oC_mo ad mo_fields mo_bound mo_points mo_crossings R_mo_isKnown mo_commands mo_needleX mo_needleY mo_hasFile mo_format mo_length mo_heads mo_late mo_ran mo_program R_mo_thrown mo_rowY mo_stitches ∧ σ' 26 = .inl (cI, 8, .inl (zA R_mo_density)) ∧ σ' 27 = .inl (cI, 8, .inl (zA R_mo_longest)) ∧ σ' 28 = .inl (cI, 8, .inl (zA R_mo_shift)) ∧ σ' 29 = .inl (cI, 8, .inl (zA R_mo_pull)) ∧ σ' 30 = .inl (cZ, 8, .inl (zA R_mo_hasUnderlay)) ∧ ∀ i : Nat, i ≠ 19 → i ≠ 26 → i ≠ 27 → i ≠ 28 → i ≠ 29 → i ≠ 30 → σ' i = σ0 i)) 0 0 (zFr ad N sz) := by
  refine zMet hI (plainFor_of_name (by decide)) (Nat.le_of_ble_eq_true rfl) ⟨rfl, rfl⟩ ?_
  intro p e s m args below meth c Q hx hb hr hlocks hml hown hts hK hsz hQ hH hA ls hl
  subst hsz
  have hk_mo : 19 < N := by omega
  have hk_mo_density : 26 < N := by omega
  have hk_mo_longest : 27 < N := by omega
  have hk_mo_shift : 28 < N := by omega
  have hk_mo_pull : 29 < N := by omega
  have hk_mo_hasUnderlay : 30 < N := by omega
  have hl : lv_has ls 7 [(0, .ref (ad 19)), (1, .int (zI p1)), (2, .int (zI p2)), (3, .int (zI p3)), (4, .int (zI p4)), (5, .int (zI p5)), (6, .int (zI p6))] := hl
  have hbg : ∀ i : Nat, i ≠ 19 → i ≠ 26 → i ≠ 27 → i ≠ 28 → i ≠ 29 → i ≠ 30 → σ0 i = σ0 i := fun _ _ _ _ _ _ _ => rfl
  have J54 : ∀ (mo_density : Int → Int) (mo_longest : Int → Int) (mo_shift : Int → Int) (mo_pull : Int → Int) (mo_hasUnderlay : Int → Int) (mo_isKnown : Int) (mo_thrown : Int) (σ : Nat → va_E) (H : Heap) (locs : List Loc) (hH : zH D ad N (zFr ad N s.heap.size) s.heap σ H locs) (h_mo : σ 19 = oC_mo ad mo_fields mo_bound mo_points mo_crossings mo_isKnown mo_commands mo_needleX mo_needleY mo_hasFile mo_format mo_length mo_heads mo_late mo_ran mo_program mo_thrown mo_rowY mo_stitches) (h_mo_density : σ 26 = .inl (cI, 8, .inl (zA mo_density))) (h_mo_longest : σ 27 = .inl (cI, 8, .inl (zA mo_longest))) (h_mo_shift : σ 28 = .inl (cI, 8, .inl (zA mo_shift))) (h_mo_pull : σ 29 = .inl (cI, 8, .inl (zA mo_pull))) (h_mo_hasUnderlay : σ 30 = .inl (cZ, 8, .inl (zA mo_hasUnderlay))) (hbg : ∀ i : Nat, i ≠ 19 → i ≠ 26 → i ≠ 27 → i ≠ 28 → i ≠ 29 → i ≠ 30 → σ i = σ0 i) (ls : Array Slot) (hl : lv_has ls 7 [(0, .ref (ad 19))]), f_X7_sew_54 mo_fields mo_density mo_longest mo_shift mo_pull mo_hasUnderlay mo_isKnown mo_thrown = some (R_mo_density, R_mo_longest, R_mo_shift, R_mo_pull, R_mo_hasUnderlay, R_mo_isKnown, R_mo_thrown) → W p l e rmX7_sew s m args below meth c H locs 0 0 Q (F0 m 54 ls []) := by
    intro mo_density mo_longest mo_shift mo_pull mo_hasUnderlay mo_isKnown mo_thrown σ H locs hH h_mo h_mo_density h_mo_longest h_mo_shift h_mo_pull h_mo_hasUnderlay hbg ls hl hf
    unfold f_X7_sew_54 at hf
    refine lv_aload_n hx hb dX7_sew_54 rfl (lv_at hl 0 rfl) ?_
    refine lv_iconst (v := zI 2) hx hb dX7_sew_55 (by decide +kernel) ?_
    refine zput hx hb inlX7 tyX7 tyX7_ok nmX7 rfl 39 rfl zk_t4_152 rfl hts hown hK hH hk_mo h_mo rfl rfl rfl dX7_sew_56 (fun σ1 Hσ1 lσ1 h_mo hn hH => ?_)
    have h_mo : σ1 19 = oC_mo ad mo_fields mo_bound mo_points mo_crossings mo_isKnown mo_commands mo_needleX mo_needleY mo_hasFile mo_format mo_length mo_heads mo_late mo_ran mo_program 2 mo_rowY mo_stitches := h_mo
    have h_mo_density := (hn 26 (by decide)).trans h_mo_density
    have h_mo_longest := (hn 27 (by decide)).trans h_mo_longest
    have h_mo_shift := (hn 28 (by decide)).trans h_mo_shift
    have h_mo_pull := (hn 29 (by decide)).trans h_mo_pull
    have h_mo_hasUnderlay := (hn 30 (by decide)).trans h_mo_hasUnderlay
    have hbg : ∀ i : Nat, i ≠ 19 → i ≠ 26 → i ≠ 27 → i ≠ 28 → i ≠ 29 → i ≠ 30 → σ1 i = σ0 i := fun i a0 a1 a2 a3 a4 a5 => (hn i a0).trans (hbg i a0 a1 a2 a3 a4 a5)
    cases hf
    exact zretv hx hb hr hlocks hQ hH ⟨h_mo, h_mo_density, h_mo_longest, h_mo_shift, h_mo_pull, h_mo_hasUnderlay, hbg⟩ dX7_sew_59
  unfold f_X7_sew at hf
  refine lv_aload_n hx hb dX7_sew_0 rfl (lv_at hl 0 rfl) ?_
  refine lv_aload_n hx hb dX7_sew_1 rfl (lv_at hl 0 rfl) ?_
  refine lv_iload_n hx hb dX7_sew_2 rfl (lv_at hl 1 rfl) ?_
  obtain ⟨r2, k3, hf⟩ := zb1_some hf
  refine zcVi (C := RX7) (As := [.int (zI p1)]) (rest := [.ref (ad 19)]) hx hb hml hown hts hl.1 hK hH hA (c_X7_isField hI hN  h_mo k3) zk_t5_23 zk_t5_25 zk_s2_15 zk_t1_6 zk_t5_26 hd_X7_isField rfl ⟨rfl, rfl, Nat.le_of_ble_eq_true rfl, Nat.le_of_ble_eq_true rfl⟩ ⟨Nat.zero_le _, Nat.zero_le _⟩ hk_mo h_mo rfl rfl rfl (Nat.le_of_ble_eq_true rfl) dX7_sew_3 (fun q5 σ4 Hσ4 lσ4 hp hH => ?_)
  obtain ⟨hr1, hs1⟩ := hp; subst hr1; rw [hs1] at hH
  obtain ⟨r6, u7, k8, hf⟩ := zb2_some hf
  refine zcVi (C := RX7) (As := [.int (zI r2)]) (rest := []) hx hb hml hown hts hl.1 hK hH hA (c_X7_asks hI hN  h_mo k8) zk_t5_11 zk_t5_13 zk_s2_13 zk_t1_6 zk_t5_14 hd_X7_asks rfl ⟨rfl, rfl, Nat.le_of_ble_eq_true rfl, Nat.le_of_ble_eq_true rfl⟩ ⟨Nat.zero_le _, Nat.zero_le _⟩ hk_mo h_mo rfl rfl rfl (Nat.le_of_ble_eq_true rfl) dX7_sew_6 (fun q10 σ9 Hσ9 lσ9 hp hH => ?_)
  obtain ⟨hr1, h_mo, hn⟩ := hp
  subst hr1
  have h_mo_density := (hn 26 (by decide)).trans h_mo_density
  have h_mo_longest := (hn 27 (by decide)).trans h_mo_longest
  have h_mo_shift := (hn 28 (by decide)).trans h_mo_shift
  have h_mo_pull := (hn 29 (by decide)).trans h_mo_pull
  have h_mo_hasUnderlay := (hn 30 (by decide)).trans h_mo_hasUnderlay
  have hbg : ∀ i : Nat, i ≠ 19 → i ≠ 26 → i ≠ 27 → i ≠ 28 → i ≠ 29 → i ≠ 30 → σ9 i = σ0 i := fun i a0 a1 a2 a3 a4 a5 => (hn i a0).trans (hbg i a0 a1 a2 a3 a4 a5)
  obtain ⟨k11, hf⟩ := zck_some hf
  refine lz_if_ne (tgt := 13) hx hb k11 dX7_sew_9 (by decide) (fun c12 => ?_) (fun c12 => ?_)
  · replace hf := (if_neg c12).symm.trans hf
    refine lv_iload_n hx hb dX7_sew_13 rfl (lv_at hl 2 rfl) ?_
    refine lv_iconst (v := zI 1) hx hb dX7_sew_14 (by decide +kernel) ?_
    refine lv_bipush (v := zI 8) hx hb dX7_sew_15 (by decide +kernel) ?_
    obtain ⟨r13, k14, hf⟩ := zb1_some hf
    refine zcSi (As := [.int (zI p2), .int (zI 1), .int (zI 8)]) (rest := []) hx hb hml hown hts hl.1 hK hH hA (c_X7_in hI hN   k14) zk_t5_8 zk_t5_9 zk_t1_6 zk_t5_10 hd_X7_in rfl ⟨rfl, rfl, Nat.le_of_ble_eq_true rfl, Nat.le_of_ble_eq_true rfl⟩ ⟨Nat.zero_le _, Nat.zero_le _⟩ rfl (Nat.le_of_ble_eq_true rfl) dX7_sew_17 (fun q16 σ15 Hσ15 lσ15 hp hH => ?_)
    obtain ⟨hr1, hs1⟩ := hp; subst hr1; rw [hs1] at hH
    obtain ⟨k17, hf⟩ := zck_some hf
    refine lz_if_eq (tgt := 54) hx hb k17 dX7_sew_20 (by decide) (fun c18 => ?_) (fun c18 => ?_)
    · replace hf := (if_pos c18).symm.trans hf
      exact J54 mo_density mo_longest mo_shift mo_pull mo_hasUnderlay mo_isKnown u7 _ _ _ hH h_mo h_mo_density h_mo_longest h_mo_shift h_mo_pull h_mo_hasUnderlay hbg _ (lv_sub hl [0] rfl) hf
    · replace hf := (if_neg c18).symm.trans hf
      refine lv_iload_n hx hb dX7_sew_23 rfl (lv_at hl 3 rfl) ?_
      refine lv_iconst (v := zI 1) hx hb dX7_sew_24 (by decide +kernel) ?_
      refine lv_bipush (v := zI 12) hx hb dX7_sew_25 (by decide +kernel) ?_
      obtain ⟨r19, k20, hf⟩ := zb1_some hf
      refine zcSi (As := [.int (zI p3), .int (zI 1), .int (zI 12)]) (rest := []) hx hb hml hown hts hl.1 hK hH hA (c_X7_in hI hN   k20) zk_t5_8 zk_t5_9 zk_t1_6 zk_t5_10 hd_X7_in rfl ⟨rfl, rfl, Nat.le_of_ble_eq_true rfl, Nat.le_of_ble_eq_true rfl⟩ ⟨Nat.zero_le _, Nat.zero_le _⟩ rfl (Nat.le_of_ble_eq_true rfl) dX7_sew_27 (fun q22 σ21 Hσ21 lσ21 hp hH => ?_)
      obtain ⟨hr1, hs1⟩ := hp; subst hr1; rw [hs1] at hH
      obtain ⟨k23, hf⟩ := zck_some hf
      refine lz_if_eq (tgt := 54) hx hb k23 dX7_sew_30 (by decide) (fun c24 => ?_) (fun c24 => ?_)
      · replace hf := (if_pos c24).symm.trans hf
        exact J54 mo_density mo_longest mo_shift mo_pull mo_hasUnderlay mo_isKnown u7 _ _ _ hH h_mo h_mo_density h_mo_longest h_mo_shift h_mo_pull h_mo_hasUnderlay hbg _ (lv_sub hl [0] rfl) hf
      · replace hf := (if_neg c24).symm.trans hf
        refine lv_iload hx hb dX7_sew_33 (lv_at hl 4 rfl) ?_
        refine lv_iconst (v := zI 0) hx hb dX7_sew_35 (by decide +kernel) ?_
        refine lv_bipush (v := zI 11) hx hb dX7_sew_36 (by decide +kernel) ?_
        obtain ⟨r25, k26, hf⟩ := zb1_some hf
        refine zcSi (As := [.int (zI p4), .int (zI 0), .int (zI 11)]) (rest := []) hx hb hml hown hts hl.1 hK hH hA (c_X7_in hI hN   k26) zk_t5_8 zk_t5_9 zk_t1_6 zk_t5_10 hd_X7_in rfl ⟨rfl, rfl, Nat.le_of_ble_eq_true rfl, Nat.le_of_ble_eq_true rfl⟩ ⟨Nat.zero_le _, Nat.zero_le _⟩ rfl (Nat.le_of_ble_eq_true rfl) dX7_sew_38 (fun q28 σ27 Hσ27 lσ27 hp hH => ?_)
        obtain ⟨hr1, hs1⟩ := hp; subst hr1; rw [hs1] at hH
        obtain ⟨k29, hf⟩ := zck_some hf
        refine lz_if_eq (tgt := 54) hx hb k29 dX7_sew_41 (by decide) (fun c30 => ?_) (fun c30 => ?_)
        · replace hf := (if_pos c30).symm.trans hf
          exact J54 mo_density mo_longest mo_shift mo_pull mo_hasUnderlay mo_isKnown u7 _ _ _ hH h_mo h_mo_density h_mo_longest h_mo_shift h_mo_pull h_mo_hasUnderlay hbg _ (lv_sub hl [0] rfl) hf
        · replace hf := (if_neg c30).symm.trans hf
          refine lv_iload hx hb dX7_sew_44 (lv_at hl 5 rfl) ?_
          refine lv_iconst (v := zI 0) hx hb dX7_sew_46 (by decide +kernel) ?_
          refine lv_iconst (v := zI 3) hx hb dX7_sew_47 (by decide +kernel) ?_
          obtain ⟨r31, k32, hf⟩ := zb1_some hf
          refine zcSi (As := [.int (zI p5), .int (zI 0), .int (zI 3)]) (rest := []) hx hb hml hown hts hl.1 hK hH hA (c_X7_in hI hN   k32) zk_t5_8 zk_t5_9 zk_t1_6 zk_t5_10 hd_X7_in rfl ⟨rfl, rfl, Nat.le_of_ble_eq_true rfl, Nat.le_of_ble_eq_true rfl⟩ ⟨Nat.zero_le _, Nat.zero_le _⟩ rfl (Nat.le_of_ble_eq_true rfl) dX7_sew_48 (fun q34 σ33 Hσ33 lσ33 hp hH => ?_)
          obtain ⟨hr1, hs1⟩ := hp; subst hr1; rw [hs1] at hH
          obtain ⟨k35, hf⟩ := zck_some hf
          refine lz_if_ne (tgt := 60) hx hb k35 dX7_sew_51 (by decide) (fun c36 => ?_) (fun c36 => ?_)
          · replace hf := (if_neg c36).symm.trans hf
            refine lv_aload_n hx hb dX7_sew_60 rfl (lv_at hl 0 rfl) ?_
            refine zget hx hb inlX7 rfl 7 rfl zk_t4_120 hts hown hK hH hk_mo h_mo rfl dX7_sew_61 ?_
            refine lv_iload_n hx hb dX7_sew_64 rfl (lv_at hl 1 rfl) ?_
            refine lv_iload_n hx hb dX7_sew_65 rfl (lv_at hl 2 rfl) ?_
            obtain ⟨k37, hf⟩ := zck_some hf
            obtain ⟨a39, ea39, hf⟩ := zlt_some hf
            refine ziast hx hb hK hH hk_mo_density 0 h_mo_density rfl k37 rfl dX7_sew_66 (fun σ38 Hσ38 lσ38 h_mo_density hn hH => ?_)
            rw [← ea39] at h_mo_density
            have h_mo := (hn 19 (by decide)).trans h_mo
            have h_mo_longest := (hn 27 (by decide)).trans h_mo_longest
            have h_mo_shift := (hn 28 (by decide)).trans h_mo_shift
            have h_mo_pull := (hn 29 (by decide)).trans h_mo_pull
            have h_mo_hasUnderlay := (hn 30 (by decide)).trans h_mo_hasUnderlay
            have hbg : ∀ i : Nat, i ≠ 19 → i ≠ 26 → i ≠ 27 → i ≠ 28 → i ≠ 29 → i ≠ 30 → σ38 i = σ0 i := fun i a0 a1 a2 a3 a4 a5 => (hn i a1).trans (hbg i a0 a1 a2 a3 a4 a5)
            refine lv_aload_n hx hb dX7_sew_67 rfl (lv_at hl 0 rfl) ?_
            refine zget hx hb inlX7 rfl 8 rfl zk_t4_121 hts hown hK hH hk_mo h_mo rfl dX7_sew_68 ?_
            refine lv_iload_n hx hb dX7_sew_71 rfl (lv_at hl 1 rfl) ?_
            refine lv_iload_n hx hb dX7_sew_72 rfl (lv_at hl 3 rfl) ?_
            obtain ⟨k40, hf⟩ := zck_some hf
            obtain ⟨a42, ea42, hf⟩ := zlt_some hf
            refine ziast hx hb hK hH hk_mo_longest 0 h_mo_longest rfl k40 rfl dX7_sew_73 (fun σ41 Hσ41 lσ41 h_mo_longest hn hH => ?_)
            rw [← ea42] at h_mo_longest
            have h_mo := (hn 19 (by decide)).trans h_mo
            have h_mo_density := (hn 26 (by decide)).trans h_mo_density
            have h_mo_shift := (hn 28 (by decide)).trans h_mo_shift
            have h_mo_pull := (hn 29 (by decide)).trans h_mo_pull
            have h_mo_hasUnderlay := (hn 30 (by decide)).trans h_mo_hasUnderlay
            have hbg : ∀ i : Nat, i ≠ 19 → i ≠ 26 → i ≠ 27 → i ≠ 28 → i ≠ 29 → i ≠ 30 → σ41 i = σ0 i := fun i a0 a1 a2 a3 a4 a5 => (hn i a2).trans (hbg i a0 a1 a2 a3 a4 a5)
            refine lv_aload_n hx hb dX7_sew_74 rfl (lv_at hl 0 rfl) ?_
            refine zget hx hb inlX7 rfl 9 rfl zk_t4_122 hts hown hK hH hk_mo h_mo rfl dX7_sew_75 ?_
            refine lv_iload_n hx hb dX7_sew_78 rfl (lv_at hl 1 rfl) ?_
            refine lv_iload hx hb dX7_sew_79 (lv_at hl 4 rfl) ?_
            obtain ⟨k43, hf⟩ := zck_some hf
            obtain ⟨a45, ea45, hf⟩ := zlt_some hf
            refine ziast hx hb hK hH hk_mo_shift 0 h_mo_shift rfl k43 rfl dX7_sew_81 (fun σ44 Hσ44 lσ44 h_mo_shift hn hH => ?_)
            rw [← ea45] at h_mo_shift
            have h_mo := (hn 19 (by decide)).trans h_mo
            have h_mo_density := (hn 26 (by decide)).trans h_mo_density
            have h_mo_longest := (hn 27 (by decide)).trans h_mo_longest
            have h_mo_pull := (hn 29 (by decide)).trans h_mo_pull
            have h_mo_hasUnderlay := (hn 30 (by decide)).trans h_mo_hasUnderlay
            have hbg : ∀ i : Nat, i ≠ 19 → i ≠ 26 → i ≠ 27 → i ≠ 28 → i ≠ 29 → i ≠ 30 → σ44 i = σ0 i := fun i a0 a1 a2 a3 a4 a5 => (hn i a3).trans (hbg i a0 a1 a2 a3 a4 a5)
            refine lv_aload_n hx hb dX7_sew_82 rfl (lv_at hl 0 rfl) ?_
            refine zget hx hb inlX7 rfl 10 rfl zk_t4_123 hts hown hK hH hk_mo h_mo rfl dX7_sew_83 ?_
            refine lv_iload_n hx hb dX7_sew_86 rfl (lv_at hl 1 rfl) ?_
            refine lv_iload hx hb dX7_sew_87 (lv_at hl 5 rfl) ?_
            obtain ⟨k46, hf⟩ := zck_some hf
            obtain ⟨a48, ea48, hf⟩ := zlt_some hf
            refine ziast hx hb hK hH hk_mo_pull 0 h_mo_pull rfl k46 rfl dX7_sew_89 (fun σ47 Hσ47 lσ47 h_mo_pull hn hH => ?_)
            rw [← ea48] at h_mo_pull
            have h_mo := (hn 19 (by decide)).trans h_mo
            have h_mo_density := (hn 26 (by decide)).trans h_mo_density
            have h_mo_longest := (hn 27 (by decide)).trans h_mo_longest
            have h_mo_shift := (hn 28 (by decide)).trans h_mo_shift
            have h_mo_hasUnderlay := (hn 30 (by decide)).trans h_mo_hasUnderlay
            have hbg : ∀ i : Nat, i ≠ 19 → i ≠ 26 → i ≠ 27 → i ≠ 28 → i ≠ 29 → i ≠ 30 → σ47 i = σ0 i := fun i a0 a1 a2 a3 a4 a5 => (hn i a4).trans (hbg i a0 a1 a2 a3 a4 a5)
            refine lv_aload_n hx hb dX7_sew_90 rfl (lv_at hl 0 rfl) ?_
            refine zget hx hb inlX7 rfl 11 rfl zk_t4_124 hts hown hK hH hk_mo h_mo rfl dX7_sew_91 ?_
            refine lv_iload_n hx hb dX7_sew_94 rfl (lv_at hl 1 rfl) ?_
            refine lv_iload hx hb dX7_sew_95 (lv_at hl 6 rfl) ?_
            obtain ⟨k49, hf⟩ := zck_some hf
            obtain ⟨k50, hf⟩ := zck_some hf
            obtain ⟨a52, ea52, hf⟩ := zlt_some hf
            refine zzast hx hb hK hH hk_mo_hasUnderlay 1 h_mo_hasUnderlay rfl k49 k50 rfl dX7_sew_97 (fun σ51 Hσ51 lσ51 h_mo_hasUnderlay hn hH => ?_)
            rw [← ea52] at h_mo_hasUnderlay
            have h_mo := (hn 19 (by decide)).trans h_mo
            have h_mo_density := (hn 26 (by decide)).trans h_mo_density
            have h_mo_longest := (hn 27 (by decide)).trans h_mo_longest
            have h_mo_shift := (hn 28 (by decide)).trans h_mo_shift
            have h_mo_pull := (hn 29 (by decide)).trans h_mo_pull
            have hbg : ∀ i : Nat, i ≠ 19 → i ≠ 26 → i ≠ 27 → i ≠ 28 → i ≠ 29 → i ≠ 30 → σ51 i = σ0 i := fun i a0 a1 a2 a3 a4 a5 => (hn i a5).trans (hbg i a0 a1 a2 a3 a4 a5)
            refine lv_aload_n hx hb dX7_sew_98 rfl (lv_at hl 0 rfl) ?_
            refine lv_iconst (v := zI 0) hx hb dX7_sew_99 (by decide +kernel) ?_
            refine zput hx hb inlX7 tyX7 tyX7_ok nmX7 rfl 18 rfl zk_t4_131 rfl hts hown hK hH hk_mo h_mo (z_nar _ (Or.inl rfl)) (z_fit _ (Or.inl rfl)) rfl dX7_sew_100 (fun σ53 Hσ53 lσ53 h_mo hn hH => ?_)
            have h_mo : σ53 19 = oC_mo ad mo_fields mo_bound mo_points mo_crossings 0 mo_commands mo_needleX mo_needleY mo_hasFile mo_format mo_length mo_heads mo_late mo_ran mo_program u7 mo_rowY mo_stitches := h_mo
            have h_mo_density := (hn 26 (by decide)).trans h_mo_density
            have h_mo_longest := (hn 27 (by decide)).trans h_mo_longest
            have h_mo_shift := (hn 28 (by decide)).trans h_mo_shift
            have h_mo_pull := (hn 29 (by decide)).trans h_mo_pull
            have h_mo_hasUnderlay := (hn 30 (by decide)).trans h_mo_hasUnderlay
            have hbg : ∀ i : Nat, i ≠ 19 → i ≠ 26 → i ≠ 27 → i ≠ 28 → i ≠ 29 → i ≠ 30 → σ53 i = σ0 i := fun i a0 a1 a2 a3 a4 a5 => (hn i a0).trans (hbg i a0 a1 a2 a3 a4 a5)
            cases hf
            exact zretv hx hb hr hlocks hQ hH ⟨h_mo, h_mo_density, h_mo_longest, h_mo_shift, h_mo_pull, h_mo_hasUnderlay, hbg⟩ dX7_sew_103
          · replace hf := (if_pos c36).symm.trans hf
            exact J54 mo_density mo_longest mo_shift mo_pull mo_hasUnderlay mo_isKnown u7 _ _ _ hH h_mo h_mo_density h_mo_longest h_mo_shift h_mo_pull h_mo_hasUnderlay hbg _ (lv_sub hl [0] rfl) hf
  · replace hf := (if_pos c12).symm.trans hf
    cases hf
    exact zretv hx hb hr hlocks hQ hH ⟨h_mo, h_mo_density, h_mo_longest, h_mo_shift, h_mo_pull, h_mo_hasUnderlay, hbg⟩ dX7_sew_12
abbrev rmX7_scale : Room := { frames := 2, cells := 0, slots := 0, locals := 43 }
theorem hd_X7_scale : yX7_scale.cls = RX7 ∧ yX7_scale.cls ≠ "java/lang/invoke/MethodHandle" ∧ yX7_scale.cls ≠ "java/lang/invoke/VarHandle" ∧ (parseMethodDescriptor yX7_scale.desc).map (fun d => d.parameters.length) = some 2 := by decide +kernel
set_option maxHeartbeats 4000000 in
set_option maxRecDepth 100000 in
theorem c_X7_scale {l : Launch} {D : va_G} {cI cZ cF cL cD : ClassId} {ad : Nat → Nat} {N : Nat} (hI : ∀ i j, i < N → j < N → ad i = ad j → i = j) (hN : 46 ≤ N) {σ0 : Nat → va_E} {sz : Nat} {mo_fields : Int} {mo_corners : Int → Int} {mo_cornerX : Int → Int} {mo_cornerY : Int → Int} {mo_bound : Int} {mo_points : Int} {mo_crossings : Int} {mo_isKnown : Int} {mo_commands : Int} {mo_needleX : Int} {mo_needleY : Int} {mo_hasFile : Int} {mo_format : Int} {mo_length : Int} {mo_heads : Int} {mo_late : Int} {mo_ran : Int} {mo_program : Int} {mo_thrown : Int} {mo_rowY : Int} {mo_stitches : Int} {p1 : Int} {p2 : Int} {R_mo_cornerX : Int → Int} {R_mo_cornerY : Int → Int} {R_mo_isKnown : Int} {R_mo_thrown : Int} (h_mo : σ0 19 = oC_mo ad mo_fields mo_bound mo_points mo_crossings mo_isKnown mo_commands mo_needleX mo_needleY mo_hasFile mo_format mo_length mo_heads mo_late mo_ran mo_program mo_thrown mo_rowY mo_stitches) (h_mo_corners : σ0 23 = .inl (cI, 8, .inl (zA mo_corners))) (h_mo_cornerX : σ0 24 = .inl (cI, 64, .inl (zA mo_cornerX))) (h_mo_cornerY : σ0 25 = .inl (cI, 64, .inl (zA mo_cornerY))) (hf : f_X7_scale mo_fields mo_corners mo_cornerX mo_cornerY mo_isKnown mo_thrown p1 p2 = some (R_mo_cornerX, R_mo_cornerY, R_mo_isKnown, R_mo_thrown)) :
    Met l yX7_scale (Cond.code yX7_scale cX7_scale 6 none :: wsL_law) rmX7_scale (zPre D ad N (zT cI cZ cF cL cD) σ0 sz [.ref (ad 19), .int (zI p1), .int (zI p2)]) (zQv D ad N sz (fun σ' => σ' 19 = oC_mo ad mo_fields mo_bound mo_points mo_crossings R_mo_isKnown mo_commands mo_needleX mo_needleY mo_hasFile mo_format mo_length mo_heads mo_late mo_ran mo_program R_mo_thrown mo_rowY mo_stitches ∧ σ' 24 = .inl (cI, 64, .inl (zA R_mo_cornerX)) ∧ σ' 25 = .inl (cI, 64, .inl (zA R_mo_cornerY)) ∧ ∀ i : Nat, i ≠ 19 → i ≠ 24 → i ≠ 25 → σ' i = σ0 i)) 0 0 (zFr ad N sz) := by
  refine zMet hI (plainFor_of_name (by decide)) (Nat.le_of_ble_eq_true rfl) ⟨rfl, rfl⟩ ?_
  intro p e s m args below meth c Q hx hb hr hlocks hml hown hts hK hsz hQ hH hA ls hl
  subst hsz
  have hk_mo : 19 < N := by omega
  have hk_mo_corners : 23 < N := by omega
  have hk_mo_cornerX : 24 < N := by omega
  have hk_mo_cornerY : 25 < N := by omega
  have hl : lv_has ls 6 [(0, .ref (ad 19)), (1, .int (zI p1)), (2, .int (zI p2))] := hl
  have hbg : ∀ i : Nat, i ≠ 19 → i ≠ 24 → i ≠ 25 → σ0 i = σ0 i := fun _ _ _ _ => rfl
  have L118 : ∀ (mo_isKnown : Int) (mo_thrown : Int) (x1 : Int) (x2 : Int)  (n : Nat) (x4 : Int) (mo_cornerX : Int → Int) (mo_cornerY : Int → Int) (x4' : Int) (mo_cornerX' : Int → Int) (mo_cornerY' : Int → Int), zlp (fun z => f_X7_scale_L118 mo_fields mo_corners mo_isKnown mo_thrown x1 x2 z.1 z.2.1 z.2.2) n (x4, mo_cornerX, mo_cornerY) = some (x4', mo_cornerX', mo_cornerY') → ∀ (σ : Nat → va_E) (H : Heap) (locs : List Loc) (hH : zH D ad N (zFr ad N s.heap.size) s.heap σ H locs) (h_mo : σ 19 = oC_mo ad mo_fields mo_bound mo_points mo_crossings mo_isKnown mo_commands mo_needleX mo_needleY mo_hasFile mo_format mo_length mo_heads mo_late mo_ran mo_program mo_thrown mo_rowY mo_stitches) (h_mo_corners : σ 23 = .inl (cI, 8, .inl (zA mo_corners))) (h_mo_cornerX : σ 24 = .inl (cI, 64, .inl (zA mo_cornerX))) (h_mo_cornerY : σ 25 = .inl (cI, 64, .inl (zA mo_cornerY))) (hbg : ∀ i : Nat, i ≠ 19 → i ≠ 24 → i ≠ 25 → σ i = σ0 i) (ls : Array Slot) (hl : lv_has ls 6 [(0, .ref (ad 19)), (1, .int (zI x1)), (2, .int (zI x2)), (4, .int (zI x4))]), (∀ (σ : Nat → va_E) (H : Heap) (locs : List Loc) (hH : zH D ad N (zFr ad N s.heap.size) s.heap σ H locs) (h_mo : σ 19 = oC_mo ad mo_fields mo_bound mo_points mo_crossings mo_isKnown mo_commands mo_needleX mo_needleY mo_hasFile mo_format mo_length mo_heads mo_late mo_ran mo_program mo_thrown mo_rowY mo_stitches) (h_mo_corners : σ 23 = .inl (cI, 8, .inl (zA mo_corners))) (h_mo_cornerX : σ 24 = .inl (cI, 64, .inl (zA (mo_cornerX')))) (h_mo_cornerY : σ 25 = .inl (cI, 64, .inl (zA (mo_cornerY')))) (hbg : ∀ i : Nat, i ≠ 19 → i ≠ 24 → i ≠ 25 → σ i = σ0 i) (ls : Array Slot) (hl : lv_has ls 6 [(0, .ref (ad 19))]), W p l e rmX7_scale s m args below meth c H locs 0 0 Q (F0 m 182 ls [])) → W p l e rmX7_scale s m args below meth c H locs 0 0 Q (F0 m 118 ls []) := by
    intro mo_isKnown mo_thrown x1 x2 n
    induction n with
    | zero => intro x4 mo_cornerX mo_cornerY x4' mo_cornerX' mo_cornerY' hz; exact (zlp_0 hz).elim
    | succ n ih =>
      intro x4 mo_cornerX mo_cornerY x4' mo_cornerX' mo_cornerY' hz σ H locs hH h_mo h_mo_corners h_mo_cornerX h_mo_cornerY hbg ls hl kx
      obtain ⟨nx, hf, hnx⟩ := zlp_some hz
      have hf : f_X7_scale_L118 mo_fields mo_corners mo_isKnown mo_thrown x1 x2 x4 mo_cornerX mo_cornerY = some nx := hf
      unfold f_X7_scale_L118 at hf
      refine lv_iload hx hb dX7_scale_118 (lv_at hl 3 rfl) ?_
      refine lv_aload_n hx hb dX7_scale_120 rfl (lv_at hl 0 rfl) ?_
      refine zget hx hb inlX7 rfl 4 rfl zk_t4_117 hts hown hK hH hk_mo h_mo rfl dX7_scale_121 ?_
      refine lv_iload_n hx hb dX7_scale_124 rfl (lv_at hl 1 rfl) ?_
      obtain ⟨k1, hf⟩ := zck_some hf
      refine ziald hx hb hK hH hk_mo_corners 0 h_mo_corners rfl k1 rfl dX7_scale_125 ?_
      obtain ⟨k2, hf⟩ := zck_some hf
      refine lz_icmp_ge (tgt := 182) hx hb k2 dX7_scale_126 (by decide) (fun c3 => ?_) (fun c3 => ?_)
      · replace hf := (if_pos c3).symm.trans hf
        cases hf
        cases hnx
        exact kx _ _ _ hH h_mo h_mo_corners h_mo_cornerX h_mo_cornerY hbg _ (lv_sub hl [0] rfl)
      · replace hf := (if_neg c3).symm.trans hf
        refine lv_bipush (v := zI 8) hx hb dX7_scale_129 (by decide +kernel) ?_
        refine lv_iload_n hx hb dX7_scale_131 rfl (lv_at hl 1 rfl) ?_
        refine lz_imul hx hb dX7_scale_132 ?_
        refine lv_iload hx hb dX7_scale_133 (lv_at hl 3 rfl) ?_
        refine lz_iadd hx hb dX7_scale_135 ?_
        obtain ⟨v4, ev4, hf⟩ := zlt_some hf
        refine lz_nm ev4 ?_
        refine lv_istore (lv' := [(5, .int (zI v4)), (0, .ref (ad 19)), (1, .int (zI x1)), (2, .int (zI x2)), (4, .int (zI x4))]) hx hb dX7_scale_136 hl (by decide) rfl (fun ls hl => ?_)
        refine lv_aload_n hx hb dX7_scale_138 rfl (lv_at hl 1 rfl) ?_
        refine zget hx hb inlX7 rfl 5 rfl zk_t4_118 hts hown hK hH hk_mo h_mo rfl dX7_scale_139 ?_
        refine lv_iload hx hb dX7_scale_142 (lv_at hl 0 rfl) ?_
        refine lv_aload_n hx hb dX7_scale_144 rfl (lv_at hl 1 rfl) ?_
        refine zget hx hb inlX7 rfl 5 rfl zk_t4_118 hts hown hK hH hk_mo h_mo rfl dX7_scale_145 ?_
        refine lv_iload hx hb dX7_scale_148 (lv_at hl 0 rfl) ?_
        obtain ⟨k5, hf⟩ := zck_some hf
        refine ziald hx hb hK hH hk_mo_cornerX 0 h_mo_cornerX rfl k5 rfl dX7_scale_150 ?_
        refine lv_iload_n hx hb dX7_scale_151 rfl (lv_at hl 3 rfl) ?_
        refine lz_imul hx hb dX7_scale_152 ?_
        refine lv_bipush (v := zI 100) hx hb dX7_scale_153 (by decide +kernel) ?_
        obtain ⟨k6, hf⟩ := zck_some hf
        refine lz_idiv hx hb ⟨⟨k6, by decide⟩, by decide⟩ dX7_scale_155 ?_
        obtain ⟨k7, hf⟩ := zck_some hf
        obtain ⟨a9, ea9, hf⟩ := zlt_some hf
        refine ziast hx hb hK hH hk_mo_cornerX 0 h_mo_cornerX rfl k7 rfl dX7_scale_156 (fun σ8 Hσ8 lσ8 h_mo_cornerX hn hH => ?_)
        rw [← ea9] at h_mo_cornerX
        have h_mo := (hn 19 (by decide)).trans h_mo
        have h_mo_corners := (hn 23 (by decide)).trans h_mo_corners
        have h_mo_cornerY := (hn 25 (by decide)).trans h_mo_cornerY
        have hbg : ∀ i : Nat, i ≠ 19 → i ≠ 24 → i ≠ 25 → σ8 i = σ0 i := fun i a0 a1 a2 => (hn i a1).trans (hbg i a0 a1 a2)
        refine lv_aload_n hx hb dX7_scale_157 rfl (lv_at hl 1 rfl) ?_
        refine zget hx hb inlX7 rfl 6 rfl zk_t4_119 hts hown hK hH hk_mo h_mo rfl dX7_scale_158 ?_
        refine lv_iload hx hb dX7_scale_161 (lv_at hl 0 rfl) ?_
        refine lv_aload_n hx hb dX7_scale_163 rfl (lv_at hl 1 rfl) ?_
        refine zget hx hb inlX7 rfl 6 rfl zk_t4_119 hts hown hK hH hk_mo h_mo rfl dX7_scale_164 ?_
        refine lv_iload hx hb dX7_scale_167 (lv_at hl 0 rfl) ?_
        obtain ⟨k10, hf⟩ := zck_some hf
        refine ziald hx hb hK hH hk_mo_cornerY 0 h_mo_cornerY rfl k10 rfl dX7_scale_169 ?_
        refine lv_iload_n hx hb dX7_scale_170 rfl (lv_at hl 3 rfl) ?_
        refine lz_imul hx hb dX7_scale_171 ?_
        refine lv_bipush (v := zI 100) hx hb dX7_scale_172 (by decide +kernel) ?_
        obtain ⟨k11, hf⟩ := zck_some hf
        refine lz_idiv hx hb ⟨⟨k11, by decide⟩, by decide⟩ dX7_scale_174 ?_
        obtain ⟨k12, hf⟩ := zck_some hf
        obtain ⟨a14, ea14, hf⟩ := zlt_some hf
        refine ziast hx hb hK hH hk_mo_cornerY 0 h_mo_cornerY rfl k12 rfl dX7_scale_175 (fun σ13 Hσ13 lσ13 h_mo_cornerY hn hH => ?_)
        rw [← ea14] at h_mo_cornerY
        have h_mo := (hn 19 (by decide)).trans h_mo
        have h_mo_corners := (hn 23 (by decide)).trans h_mo_corners
        have h_mo_cornerX := (hn 24 (by decide)).trans h_mo_cornerX
        have hbg : ∀ i : Nat, i ≠ 19 → i ≠ 24 → i ≠ 25 → σ13 i = σ0 i := fun i a0 a1 a2 => (hn i a2).trans (hbg i a0 a1 a2)
        refine lz_iinc (lv' := [(4, .int (zI (x4 + 1))), (5, .int (zI v4)), (0, .ref (ad 19)), (1, .int (zI x1)), (2, .int (zI x2))]) hx hb dX7_scale_176 hl (j := 4) rfl (by decide) rfl (fun ls hl => ?_)
        refine lv_goto (tgt := 118) hx hb dX7_scale_179 (by decide) ?_
        cases hf
        exact ih (x4 + 1) a9 a14 _ _ _ hnx _ _ _ hH h_mo h_mo_corners h_mo_cornerX h_mo_cornerY hbg _ (lv_sub hl [2, 3, 4, 0] rfl) kx
  have L35 : ∀ (mo_cornerX : Int → Int) (mo_cornerY : Int → Int) (mo_isKnown : Int) (mo_thrown : Int) (x1 : Int) (x2 : Int)  (n : Nat) (x3 : Int) (x4 : Int) (x3' : Int) (x4' : Int), zlp (fun z => f_X7_scale_L35 mo_fields mo_corners mo_cornerX mo_cornerY mo_isKnown mo_thrown x1 x2 z.1 z.2) n (x3, x4) = some (x3', x4') → ∀ (σ : Nat → va_E) (H : Heap) (locs : List Loc) (hH : zH D ad N (zFr ad N s.heap.size) s.heap σ H locs) (h_mo : σ 19 = oC_mo ad mo_fields mo_bound mo_points mo_crossings mo_isKnown mo_commands mo_needleX mo_needleY mo_hasFile mo_format mo_length mo_heads mo_late mo_ran mo_program mo_thrown mo_rowY mo_stitches) (h_mo_corners : σ 23 = .inl (cI, 8, .inl (zA mo_corners))) (h_mo_cornerX : σ 24 = .inl (cI, 64, .inl (zA mo_cornerX))) (h_mo_cornerY : σ 25 = .inl (cI, 64, .inl (zA mo_cornerY))) (hbg : ∀ i : Nat, i ≠ 19 → i ≠ 24 → i ≠ 25 → σ i = σ0 i) (ls : Array Slot) (hl : lv_has ls 6 [(0, .ref (ad 19)), (1, .int (zI x1)), (2, .int (zI x2)), (3, .int (zI x3)), (4, .int (zI x4))]), (∀ (σ : Nat → va_E) (H : Heap) (locs : List Loc) (hH : zH D ad N (zFr ad N s.heap.size) s.heap σ H locs) (h_mo : σ 19 = oC_mo ad mo_fields mo_bound mo_points mo_crossings mo_isKnown mo_commands mo_needleX mo_needleY mo_hasFile mo_format mo_length mo_heads mo_late mo_ran mo_program mo_thrown mo_rowY mo_stitches) (h_mo_corners : σ 23 = .inl (cI, 8, .inl (zA mo_corners))) (h_mo_cornerX : σ 24 = .inl (cI, 64, .inl (zA mo_cornerX))) (h_mo_cornerY : σ 25 = .inl (cI, 64, .inl (zA mo_cornerY))) (hbg : ∀ i : Nat, i ≠ 19 → i ≠ 24 → i ≠ 25 → σ i = σ0 i) (ls : Array Slot) (hl : lv_has ls 6 [(0, .ref (ad 19)), (1, .int (zI x1)), (2, .int (zI x2)), (3, .int (zI (x3')))]), W p l e rmX7_scale s m args below meth c H locs 0 0 Q (F0 m 105 ls [])) → W p l e rmX7_scale s m args below meth c H locs 0 0 Q (F0 m 35 ls []) := by
    intro mo_cornerX mo_cornerY mo_isKnown mo_thrown x1 x2 n
    induction n with
    | zero => intro x3 x4 x3' x4' hz; exact (zlp_0 hz).elim
    | succ n ih =>
      intro x3 x4 x3' x4' hz σ H locs hH h_mo h_mo_corners h_mo_cornerX h_mo_cornerY hbg ls hl kx
      obtain ⟨nx, hf, hnx⟩ := zlp_some hz
      have hf : f_X7_scale_L35 mo_fields mo_corners mo_cornerX mo_cornerY mo_isKnown mo_thrown x1 x2 x3 x4 = some nx := hf
      unfold f_X7_scale_L35 at hf
      refine lv_iload hx hb dX7_scale_35 (lv_at hl 4 rfl) ?_
      refine lv_aload_n hx hb dX7_scale_37 rfl (lv_at hl 0 rfl) ?_
      refine zget hx hb inlX7 rfl 4 rfl zk_t4_117 hts hown hK hH hk_mo h_mo rfl dX7_scale_38 ?_
      refine lv_iload_n hx hb dX7_scale_41 rfl (lv_at hl 1 rfl) ?_
      obtain ⟨k15, hf⟩ := zck_some hf
      refine ziald hx hb hK hH hk_mo_corners 0 h_mo_corners rfl k15 rfl dX7_scale_42 ?_
      obtain ⟨k16, hf⟩ := zck_some hf
      refine lz_icmp_ge (tgt := 105) hx hb k16 dX7_scale_43 (by decide) (fun c17 => ?_) (fun c17 => ?_)
      · replace hf := (if_pos c17).symm.trans hf
        cases hf
        cases hnx
        exact kx _ _ _ hH h_mo h_mo_corners h_mo_cornerX h_mo_cornerY hbg _ (lv_sub hl [0, 1, 2, 3] rfl)
      · replace hf := (if_neg c17).symm.trans hf
        refine lv_bipush (v := zI 8) hx hb dX7_scale_46 (by decide +kernel) ?_
        refine lv_iload_n hx hb dX7_scale_48 rfl (lv_at hl 1 rfl) ?_
        refine lz_imul hx hb dX7_scale_49 ?_
        refine lv_iload hx hb dX7_scale_50 (lv_at hl 4 rfl) ?_
        refine lz_iadd hx hb dX7_scale_52 ?_
        obtain ⟨v18, ev18, hf⟩ := zlt_some hf
        refine lz_nm ev18 ?_
        refine lv_istore (lv' := [(5, .int (zI v18)), (0, .ref (ad 19)), (1, .int (zI x1)), (2, .int (zI x2)), (3, .int (zI x3)), (4, .int (zI x4))]) hx hb dX7_scale_53 hl (by decide) rfl (fun ls hl => ?_)
        refine lv_iload_n hx hb dX7_scale_55 rfl (lv_at hl 4 rfl) ?_
        obtain ⟨k19, hf⟩ := zck_some hf
        refine lz_if_eq (tgt := 97) hx hb k19 dX7_scale_56 (by decide) (fun c20 => ?_) (fun c20 => ?_)
        · replace hf := (if_pos c20).symm.trans hf
          refine lv_iconst (v := zI 0) hx hb dX7_scale_97 (by decide +kernel) ?_
          refine lv_istore_n (lv' := [(3, .int (zI 0)), (5, .int (zI v18)), (0, .ref (ad 19)), (1, .int (zI x1)), (2, .int (zI x2)), (4, .int (zI x4))]) hx hb dX7_scale_98 rfl hl (by decide) rfl (fun ls hl => ?_)
          refine lz_iinc (lv' := [(4, .int (zI (x4 + 1))), (3, .int (zI 0)), (5, .int (zI v18)), (0, .ref (ad 19)), (1, .int (zI x1)), (2, .int (zI x2))]) hx hb dX7_scale_99 hl (j := 5) rfl (by decide) rfl (fun ls hl => ?_)
          refine lv_goto (tgt := 35) hx hb dX7_scale_102 (by decide) ?_
          cases hf
          exact ih 0 (x4 + 1) _ _ hnx _ _ _ hH h_mo h_mo_corners h_mo_cornerX h_mo_cornerY hbg _ (lv_sub hl [3, 4, 5, 1, 0] rfl) kx
        · replace hf := (if_neg c20).symm.trans hf
          refine lv_aload_n hx hb dX7_scale_59 rfl (lv_at hl 1 rfl) ?_
          refine zget hx hb inlX7 rfl 5 rfl zk_t4_118 hts hown hK hH hk_mo h_mo rfl dX7_scale_60 ?_
          refine lv_iload hx hb dX7_scale_63 (lv_at hl 0 rfl) ?_
          obtain ⟨k21, hf⟩ := zck_some hf
          refine ziald hx hb hK hH hk_mo_cornerX 0 h_mo_cornerX rfl k21 rfl dX7_scale_65 ?_
          refine lv_iload_n hx hb dX7_scale_66 rfl (lv_at hl 3 rfl) ?_
          refine lz_imul hx hb dX7_scale_67 ?_
          refine lv_bipush (v := zI 100) hx hb dX7_scale_68 (by decide +kernel) ?_
          obtain ⟨k22, hf⟩ := zck_some hf
          refine lz_idiv hx hb ⟨⟨k22, by decide⟩, by decide⟩ dX7_scale_70 ?_
          refine lv_bipush (v := zI 32) hx hb dX7_scale_71 (by decide +kernel) ?_
          obtain ⟨k23, hf⟩ := zck_some hf
          refine lz_icmp_ge (tgt := 97) hx hb ⟨k23, by decide⟩ dX7_scale_73 (by decide) (fun c24 => ?_) (fun c24 => ?_)
          · replace hf := (if_pos c24).symm.trans hf
            refine lv_iconst (v := zI 0) hx hb dX7_scale_97 (by decide +kernel) ?_
            refine lv_istore_n (lv' := [(3, .int (zI 0)), (5, .int (zI v18)), (0, .ref (ad 19)), (1, .int (zI x1)), (2, .int (zI x2)), (4, .int (zI x4))]) hx hb dX7_scale_98 rfl hl (by decide) rfl (fun ls hl => ?_)
            refine lz_iinc (lv' := [(4, .int (zI (x4 + 1))), (3, .int (zI 0)), (5, .int (zI v18)), (0, .ref (ad 19)), (1, .int (zI x1)), (2, .int (zI x2))]) hx hb dX7_scale_99 hl (j := 5) rfl (by decide) rfl (fun ls hl => ?_)
            refine lv_goto (tgt := 35) hx hb dX7_scale_102 (by decide) ?_
            cases hf
            exact ih 0 (x4 + 1) _ _ hnx _ _ _ hH h_mo h_mo_corners h_mo_cornerX h_mo_cornerY hbg _ (lv_sub hl [3, 4, 5, 1, 0] rfl) kx
          · replace hf := (if_neg c24).symm.trans hf
            refine lv_aload_n hx hb dX7_scale_76 rfl (lv_at hl 1 rfl) ?_
            refine zget hx hb inlX7 rfl 6 rfl zk_t4_119 hts hown hK hH hk_mo h_mo rfl dX7_scale_77 ?_
            refine lv_iload hx hb dX7_scale_80 (lv_at hl 0 rfl) ?_
            obtain ⟨k25, hf⟩ := zck_some hf
            refine ziald hx hb hK hH hk_mo_cornerY 0 h_mo_cornerY rfl k25 rfl dX7_scale_82 ?_
            refine lv_iload_n hx hb dX7_scale_83 rfl (lv_at hl 3 rfl) ?_
            refine lz_imul hx hb dX7_scale_84 ?_
            refine lv_bipush (v := zI 100) hx hb dX7_scale_85 (by decide +kernel) ?_
            obtain ⟨k26, hf⟩ := zck_some hf
            refine lz_idiv hx hb ⟨⟨k26, by decide⟩, by decide⟩ dX7_scale_87 ?_
            refine lv_bipush (v := zI 32) hx hb dX7_scale_88 (by decide +kernel) ?_
            obtain ⟨k27, hf⟩ := zck_some hf
            refine lz_icmp_ge (tgt := 97) hx hb ⟨k27, by decide⟩ dX7_scale_90 (by decide) (fun c28 => ?_) (fun c28 => ?_)
            · replace hf := (if_pos c28).symm.trans hf
              refine lv_iconst (v := zI 0) hx hb dX7_scale_97 (by decide +kernel) ?_
              refine lv_istore_n (lv' := [(3, .int (zI 0)), (5, .int (zI v18)), (0, .ref (ad 19)), (1, .int (zI x1)), (2, .int (zI x2)), (4, .int (zI x4))]) hx hb dX7_scale_98 rfl hl (by decide) rfl (fun ls hl => ?_)
              refine lz_iinc (lv' := [(4, .int (zI (x4 + 1))), (3, .int (zI 0)), (5, .int (zI v18)), (0, .ref (ad 19)), (1, .int (zI x1)), (2, .int (zI x2))]) hx hb dX7_scale_99 hl (j := 5) rfl (by decide) rfl (fun ls hl => ?_)
              refine lv_goto (tgt := 35) hx hb dX7_scale_102 (by decide) ?_
              cases hf
              exact ih 0 (x4 + 1) _ _ hnx _ _ _ hH h_mo h_mo_corners h_mo_cornerX h_mo_cornerY hbg _ (lv_sub hl [3, 4, 5, 1, 0] rfl) kx
            · replace hf := (if_neg c28).symm.trans hf
              refine lv_iconst (v := zI 1) hx hb dX7_scale_93 (by decide +kernel) ?_
              refine lv_goto (tgt := 98) hx hb dX7_scale_94 (by decide) ?_
              refine lv_istore_n (lv' := [(3, .int (zI 1)), (5, .int (zI v18)), (0, .ref (ad 19)), (1, .int (zI x1)), (2, .int (zI x2)), (4, .int (zI x4))]) hx hb dX7_scale_98 rfl hl (by decide) rfl (fun ls hl => ?_)
              refine lz_iinc (lv' := [(4, .int (zI (x4 + 1))), (3, .int (zI 1)), (5, .int (zI v18)), (0, .ref (ad 19)), (1, .int (zI x1)), (2, .int (zI x2))]) hx hb dX7_scale_99 hl (j := 5) rfl (by decide) rfl (fun ls hl => ?_)
              refine lv_goto (tgt := 35) hx hb dX7_scale_102 (by decide) ?_
              cases hf
              exact ih 1 (x4 + 1) _ _ hnx _ _ _ hH h_mo h_mo_corners h_mo_cornerX h_mo_cornerY hbg _ (lv_sub hl [3, 4, 5, 1, 0] rfl) kx
  unfold f_X7_scale at hf
  refine lv_aload_n hx hb dX7_scale_0 rfl (lv_at hl 0 rfl) ?_
  refine lv_aload_n hx hb dX7_scale_1 rfl (lv_at hl 0 rfl) ?_
  refine lv_iload_n hx hb dX7_scale_2 rfl (lv_at hl 1 rfl) ?_
  obtain ⟨r29, k30, hf⟩ := zb1_some hf
  refine zcVi (C := RX7) (As := [.int (zI p1)]) (rest := [.ref (ad 19)]) hx hb hml hown hts hl.1 hK hH hA (c_X7_isField hI hN  h_mo k30) zk_t5_23 zk_t5_25 zk_s2_15 zk_t1_6 zk_t5_26 hd_X7_isField rfl ⟨rfl, rfl, Nat.le_of_ble_eq_true rfl, Nat.le_of_ble_eq_true rfl⟩ ⟨Nat.zero_le _, Nat.zero_le _⟩ hk_mo h_mo rfl rfl rfl (Nat.le_of_ble_eq_true rfl) dX7_scale_3 (fun q32 σ31 Hσ31 lσ31 hp hH => ?_)
  obtain ⟨hr1, hs1⟩ := hp; subst hr1; rw [hs1] at hH
  obtain ⟨r33, u34, k35, hf⟩ := zb2_some hf
  refine zcVi (C := RX7) (As := [.int (zI r29)]) (rest := []) hx hb hml hown hts hl.1 hK hH hA (c_X7_asks hI hN  h_mo k35) zk_t5_11 zk_t5_13 zk_s2_13 zk_t1_6 zk_t5_14 hd_X7_asks rfl ⟨rfl, rfl, Nat.le_of_ble_eq_true rfl, Nat.le_of_ble_eq_true rfl⟩ ⟨Nat.zero_le _, Nat.zero_le _⟩ hk_mo h_mo rfl rfl rfl (Nat.le_of_ble_eq_true rfl) dX7_scale_6 (fun q37 σ36 Hσ36 lσ36 hp hH => ?_)
  obtain ⟨hr1, h_mo, hn⟩ := hp
  subst hr1
  have h_mo_corners := (hn 23 (by decide)).trans h_mo_corners
  have h_mo_cornerX := (hn 24 (by decide)).trans h_mo_cornerX
  have h_mo_cornerY := (hn 25 (by decide)).trans h_mo_cornerY
  have hbg : ∀ i : Nat, i ≠ 19 → i ≠ 24 → i ≠ 25 → σ36 i = σ0 i := fun i a0 a1 a2 => (hn i a0).trans (hbg i a0 a1 a2)
  obtain ⟨k38, hf⟩ := zck_some hf
  refine lz_if_ne (tgt := 13) hx hb k38 dX7_scale_9 (by decide) (fun c39 => ?_) (fun c39 => ?_)
  · replace hf := (if_neg c39).symm.trans hf
    refine lv_iload_n hx hb dX7_scale_13 rfl (lv_at hl 2 rfl) ?_
    refine lv_iconst (v := zI 1) hx hb dX7_scale_14 (by decide +kernel) ?_
    refine lv_sipush (v := zI 400) hx hb dX7_scale_15 (by decide +kernel) ?_
    obtain ⟨r40, k41, hf⟩ := zb1_some hf
    refine zcSi (As := [.int (zI p2), .int (zI 1), .int (zI 400)]) (rest := []) hx hb hml hown hts hl.1 hK hH hA (c_X7_in hI hN   k41) zk_t5_8 zk_t5_9 zk_t1_6 zk_t5_10 hd_X7_in rfl ⟨rfl, rfl, Nat.le_of_ble_eq_true rfl, Nat.le_of_ble_eq_true rfl⟩ ⟨Nat.zero_le _, Nat.zero_le _⟩ rfl (Nat.le_of_ble_eq_true rfl) dX7_scale_18 (fun q43 σ42 Hσ42 lσ42 hp hH => ?_)
    obtain ⟨hr1, hs1⟩ := hp; subst hr1; rw [hs1] at hH
    obtain ⟨k44, hf⟩ := zck_some hf
    refine lz_if_ne (tgt := 30) hx hb k44 dX7_scale_21 (by decide) (fun c45 => ?_) (fun c45 => ?_)
    · replace hf := (if_neg c45).symm.trans hf
      refine lv_iconst (v := zI 1) hx hb dX7_scale_30 (by decide +kernel) ?_
      refine lv_istore_n (lv' := [(3, .int (zI 1)), (0, .ref (ad 19)), (1, .int (zI p1)), (2, .int (zI p2))]) hx hb dX7_scale_31 rfl hl (by decide) rfl (fun ls hl => ?_)
      refine lv_iconst (v := zI 0) hx hb dX7_scale_32 (by decide +kernel) ?_
      refine lv_istore (lv' := [(4, .int (zI 0)), (3, .int (zI 1)), (0, .ref (ad 19)), (1, .int (zI p1)), (2, .int (zI p2))]) hx hb dX7_scale_33 hl (by decide) rfl (fun ls hl => ?_)
      obtain ⟨w47, w48, k46, hf⟩ := zb2_some hf
      refine L35 mo_cornerX mo_cornerY mo_isKnown u34 p1 p2 zFU 1 0 w47 w48 k46 _ _ _ hH h_mo h_mo_corners h_mo_cornerX h_mo_cornerY hbg _ (lv_sub hl [2, 3, 4, 1, 0] rfl) (fun σ49 Hσ49 lσ49 hH h_mo h_mo_corners h_mo_cornerX h_mo_cornerY hbg ls hl => ?_)
      refine lv_iload_n hx hb dX7_scale_105 rfl (lv_at hl 3 rfl) ?_
      obtain ⟨k50, hf⟩ := zck_some hf
      refine lz_if_ne (tgt := 115) hx hb k50 dX7_scale_106 (by decide) (fun c51 => ?_) (fun c51 => ?_)
      · replace hf := (if_neg c51).symm.trans hf
        refine lv_iconst (v := zI 0) hx hb dX7_scale_115 (by decide +kernel) ?_
        refine lv_istore (lv' := [(4, .int (zI 0)), (0, .ref (ad 19)), (1, .int (zI p1)), (2, .int (zI p2)), (3, .int (zI w47))]) hx hb dX7_scale_116 hl (by decide) rfl (fun ls hl => ?_)
        obtain ⟨w53, w54, w55, k52, hf⟩ := zb3_some hf
        refine L118 mo_isKnown u34 p1 p2 zFU 0 mo_cornerX mo_cornerY w53 w54 w55 k52 _ _ _ hH h_mo h_mo_corners h_mo_cornerX h_mo_cornerY hbg _ (lv_sub hl [1, 2, 3, 0] rfl) (fun σ56 Hσ56 lσ56 hH h_mo h_mo_corners h_mo_cornerX h_mo_cornerY hbg ls hl => ?_)
        refine lv_aload_n hx hb dX7_scale_182 rfl (lv_at hl 0 rfl) ?_
        refine lv_iconst (v := zI 0) hx hb dX7_scale_183 (by decide +kernel) ?_
        refine zput hx hb inlX7 tyX7 tyX7_ok nmX7 rfl 18 rfl zk_t4_131 rfl hts hown hK hH hk_mo h_mo (z_nar _ (Or.inl rfl)) (z_fit _ (Or.inl rfl)) rfl dX7_scale_184 (fun σ57 Hσ57 lσ57 h_mo hn hH => ?_)
        have h_mo : σ57 19 = oC_mo ad mo_fields mo_bound mo_points mo_crossings 0 mo_commands mo_needleX mo_needleY mo_hasFile mo_format mo_length mo_heads mo_late mo_ran mo_program u34 mo_rowY mo_stitches := h_mo
        have h_mo_corners := (hn 23 (by decide)).trans h_mo_corners
        have h_mo_cornerX := (hn 24 (by decide)).trans h_mo_cornerX
        have h_mo_cornerY := (hn 25 (by decide)).trans h_mo_cornerY
        have hbg : ∀ i : Nat, i ≠ 19 → i ≠ 24 → i ≠ 25 → σ57 i = σ0 i := fun i a0 a1 a2 => (hn i a0).trans (hbg i a0 a1 a2)
        cases hf
        exact zretv hx hb hr hlocks hQ hH ⟨h_mo, h_mo_cornerX, h_mo_cornerY, hbg⟩ dX7_scale_187
      · replace hf := (if_pos c51).symm.trans hf
        refine lv_aload_n hx hb dX7_scale_109 rfl (lv_at hl 0 rfl) ?_
        refine lv_iconst (v := zI 3) hx hb dX7_scale_110 (by decide +kernel) ?_
        refine zput hx hb inlX7 tyX7 tyX7_ok nmX7 rfl 39 rfl zk_t4_152 rfl hts hown hK hH hk_mo h_mo rfl rfl rfl dX7_scale_111 (fun σ58 Hσ58 lσ58 h_mo hn hH => ?_)
        have h_mo : σ58 19 = oC_mo ad mo_fields mo_bound mo_points mo_crossings mo_isKnown mo_commands mo_needleX mo_needleY mo_hasFile mo_format mo_length mo_heads mo_late mo_ran mo_program 3 mo_rowY mo_stitches := h_mo
        have h_mo_corners := (hn 23 (by decide)).trans h_mo_corners
        have h_mo_cornerX := (hn 24 (by decide)).trans h_mo_cornerX
        have h_mo_cornerY := (hn 25 (by decide)).trans h_mo_cornerY
        have hbg : ∀ i : Nat, i ≠ 19 → i ≠ 24 → i ≠ 25 → σ58 i = σ0 i := fun i a0 a1 a2 => (hn i a0).trans (hbg i a0 a1 a2)
        cases hf
        exact zretv hx hb hr hlocks hQ hH ⟨h_mo, h_mo_cornerX, h_mo_cornerY, hbg⟩ dX7_scale_114
    · replace hf := (if_pos c45).symm.trans hf
      refine lv_aload_n hx hb dX7_scale_24 rfl (lv_at hl 0 rfl) ?_
      refine lv_iconst (v := zI 2) hx hb dX7_scale_25 (by decide +kernel) ?_
      refine zput hx hb inlX7 tyX7 tyX7_ok nmX7 rfl 39 rfl zk_t4_152 rfl hts hown hK hH hk_mo h_mo rfl rfl rfl dX7_scale_26 (fun σ59 Hσ59 lσ59 h_mo hn hH => ?_)
      have h_mo : σ59 19 = oC_mo ad mo_fields mo_bound mo_points mo_crossings mo_isKnown mo_commands mo_needleX mo_needleY mo_hasFile mo_format mo_length mo_heads mo_late mo_ran mo_program 2 mo_rowY mo_stitches := h_mo
      have h_mo_corners := (hn 23 (by decide)).trans h_mo_corners
      have h_mo_cornerX := (hn 24 (by decide)).trans h_mo_cornerX
      have h_mo_cornerY := (hn 25 (by decide)).trans h_mo_cornerY
      have hbg : ∀ i : Nat, i ≠ 19 → i ≠ 24 → i ≠ 25 → σ59 i = σ0 i := fun i a0 a1 a2 => (hn i a0).trans (hbg i a0 a1 a2)
      cases hf
      exact zretv hx hb hr hlocks hQ hH ⟨h_mo, h_mo_cornerX, h_mo_cornerY, hbg⟩ dX7_scale_29
  · replace hf := (if_pos c39).symm.trans hf
    cases hf
    exact zretv hx hb hr hlocks hQ hH ⟨h_mo, h_mo_cornerX, h_mo_cornerY, hbg⟩ dX7_scale_12
abbrev rmX7_bound : Room := { frames := 1, cells := 0, slots := 0, locals := 22 }
theorem hd_X7_bound : yX7_bound.cls = RX7 ∧ yX7_bound.cls ≠ "java/lang/invoke/MethodHandle" ∧ yX7_bound.cls ≠ "java/lang/invoke/VarHandle" ∧ (parseMethodDescriptor yX7_bound.desc).map (fun d => d.parameters.length) = some 1 := by decide +kernel
set_option maxHeartbeats 4000000 in
set_option maxRecDepth 100000 in
theorem c_X7_bound {l : Launch} {D : va_G} {cI cZ cF cL cD : ClassId} {ad : Nat → Nat} {N : Nat} (hI : ∀ i j, i < N → j < N → ad i = ad j → i = j) (hN : 46 ≤ N) {σ0 : Nat → va_E} {sz : Nat} {mo_fields : Int} {mo_bound : Int} {mo_points : Int} {mo_crossings : Int} {mo_isKnown : Int} {mo_commands : Int} {mo_needleX : Int} {mo_needleY : Int} {mo_hasFile : Int} {mo_format : Int} {mo_length : Int} {mo_heads : Int} {mo_late : Int} {mo_ran : Int} {mo_program : Int} {mo_thrown : Int} {mo_rowY : Int} {mo_stitches : Int} {p1 : Int} {R0 : Int} {R_mo_bound : Int} {R_mo_isKnown : Int} {R_mo_thrown : Int} (h_mo : σ0 19 = oC_mo ad mo_fields mo_bound mo_points mo_crossings mo_isKnown mo_commands mo_needleX mo_needleY mo_hasFile mo_format mo_length mo_heads mo_late mo_ran mo_program mo_thrown mo_rowY mo_stitches) (hf : f_X7_bound mo_bound mo_isKnown mo_thrown p1 = some (R0, R_mo_bound, R_mo_isKnown, R_mo_thrown)) :
    Met l yX7_bound (Cond.code yX7_bound cX7_bound 3 (some .int) :: wsL_law) rmX7_bound (zPre D ad N (zT cI cZ cF cL cD) σ0 sz [.ref (ad 19), .int (zI p1)]) (zQi D ad N sz (fun r σ' => r = zI R0 ∧ σ' 19 = oC_mo ad mo_fields R_mo_bound mo_points mo_crossings R_mo_isKnown mo_commands mo_needleX mo_needleY mo_hasFile mo_format mo_length mo_heads mo_late mo_ran mo_program R_mo_thrown mo_rowY mo_stitches ∧ ∀ i : Nat, i ≠ 19 → σ' i = σ0 i)) 0 0 (zFr ad N sz) := by
  refine zMet hI (plainFor_of_name (by decide)) (Nat.le_of_ble_eq_true rfl) ⟨rfl, rfl⟩ ?_
  intro p e s m args below meth c Q hx hb hr hlocks hml hown hts hK hsz hQ hH hA ls hl
  subst hsz
  have hk_mo : 19 < N := by omega
  have hl : lv_has ls 3 [(0, .ref (ad 19)), (1, .int (zI p1))] := hl
  have hbg : ∀ i : Nat, i ≠ 19 → σ0 i = σ0 i := fun _ _ => rfl
  unfold f_X7_bound at hf
  refine lv_aload_n hx hb dX7_bound_0 rfl (lv_at hl 0 rfl) ?_
  refine lv_iload_n hx hb dX7_bound_1 rfl (lv_at hl 1 rfl) ?_
  refine lv_iconst (v := zI 0) hx hb dX7_bound_2 (by decide +kernel) ?_
  refine lv_bipush (v := zI 100) hx hb dX7_bound_3 (by decide +kernel) ?_
  obtain ⟨r1, k2, hf⟩ := zb1_some hf
  refine zcSi (As := [.int (zI p1), .int (zI 0), .int (zI 100)]) (rest := [.ref (ad 19)]) hx hb hml hown hts hl.1 hK hH hA (c_X7_in hI hN   k2) zk_t5_8 zk_t5_9 zk_t1_6 zk_t5_10 hd_X7_in rfl ⟨rfl, rfl, Nat.le_of_ble_eq_true rfl, Nat.le_of_ble_eq_true rfl⟩ ⟨Nat.zero_le _, Nat.zero_le _⟩ rfl (Nat.le_of_ble_eq_true rfl) dX7_bound_5 (fun q4 σ3 Hσ3 lσ3 hp hH => ?_)
  obtain ⟨hr1, hs1⟩ := hp; subst hr1; rw [hs1] at hH
  obtain ⟨r5, u6, k7, hf⟩ := zb2_some hf
  refine zcVi (C := RX7) (As := [.int (zI r1)]) (rest := []) hx hb hml hown hts hl.1 hK hH hA (c_X7_asks hI hN  h_mo k7) zk_t5_11 zk_t5_13 zk_s2_13 zk_t1_6 zk_t5_14 hd_X7_asks rfl ⟨rfl, rfl, Nat.le_of_ble_eq_true rfl, Nat.le_of_ble_eq_true rfl⟩ ⟨Nat.zero_le _, Nat.zero_le _⟩ hk_mo h_mo rfl rfl rfl (Nat.le_of_ble_eq_true rfl) dX7_bound_8 (fun q9 σ8 Hσ8 lσ8 hp hH => ?_)
  obtain ⟨hr1, h_mo, hn⟩ := hp
  subst hr1
  have hbg : ∀ i : Nat, i ≠ 19 → σ8 i = σ0 i := fun i a0 => (hn i a0).trans (hbg i a0)
  obtain ⟨k10, hf⟩ := zck_some hf
  refine lz_if_ne (tgt := 16) hx hb k10 dX7_bound_11 (by decide) (fun c11 => ?_) (fun c11 => ?_)
  · replace hf := (if_neg c11).symm.trans hf
    refine lv_aload_n hx hb dX7_bound_16 rfl (lv_at hl 0 rfl) ?_
    refine zget hx hb inlX7 rfl 12 rfl zk_t4_125 hts hown hK hH hk_mo h_mo rfl dX7_bound_17 ?_
    refine lv_istore_n (lv' := [(2, .int (zI mo_bound)), (0, .ref (ad 19)), (1, .int (zI p1))]) hx hb dX7_bound_20 rfl hl (by decide) rfl (fun ls hl => ?_)
    refine lv_aload_n hx hb dX7_bound_21 rfl (lv_at hl 1 rfl) ?_
    refine lv_iload_n hx hb dX7_bound_22 rfl (lv_at hl 2 rfl) ?_
    refine zput hx hb inlX7 tyX7 tyX7_ok nmX7 rfl 12 rfl zk_t4_125 rfl hts hown hK hH hk_mo h_mo rfl rfl rfl dX7_bound_23 (fun σ12 Hσ12 lσ12 h_mo hn hH => ?_)
    have h_mo : σ12 19 = oC_mo ad mo_fields p1 mo_points mo_crossings mo_isKnown mo_commands mo_needleX mo_needleY mo_hasFile mo_format mo_length mo_heads mo_late mo_ran mo_program u6 mo_rowY mo_stitches := h_mo
    have hbg : ∀ i : Nat, i ≠ 19 → σ12 i = σ0 i := fun i a0 => (hn i a0).trans (hbg i a0)
    refine lv_aload_n hx hb dX7_bound_26 rfl (lv_at hl 1 rfl) ?_
    refine lv_iconst (v := zI 0) hx hb dX7_bound_27 (by decide +kernel) ?_
    refine zput hx hb inlX7 tyX7 tyX7_ok nmX7 rfl 18 rfl zk_t4_131 rfl hts hown hK hH hk_mo h_mo (z_nar _ (Or.inl rfl)) (z_fit _ (Or.inl rfl)) rfl dX7_bound_28 (fun σ13 Hσ13 lσ13 h_mo hn hH => ?_)
    have h_mo : σ13 19 = oC_mo ad mo_fields p1 mo_points mo_crossings 0 mo_commands mo_needleX mo_needleY mo_hasFile mo_format mo_length mo_heads mo_late mo_ran mo_program u6 mo_rowY mo_stitches := h_mo
    have hbg : ∀ i : Nat, i ≠ 19 → σ13 i = σ0 i := fun i a0 => (hn i a0).trans (hbg i a0)
    refine lv_iload_n hx hb dX7_bound_31 rfl (lv_at hl 0 rfl) ?_
    cases hf
    exact zreti hx hb hr hlocks hQ hH ⟨rfl, h_mo, hbg⟩ dX7_bound_32
  · replace hf := (if_pos c11).symm.trans hf
    refine lv_iconst (v := zI 0) hx hb dX7_bound_14 (by decide +kernel) ?_
    cases hf
    exact zreti hx hb hr hlocks hQ hH ⟨rfl, h_mo, hbg⟩ dX7_bound_15
abbrev rmX7_point : Room := { frames := 0, cells := 0, slots := 0, locals := 0 }
theorem hd_X7_point : yX7_point.cls = RX7 ∧ yX7_point.cls ≠ "java/lang/invoke/MethodHandle" ∧ yX7_point.cls ≠ "java/lang/invoke/VarHandle" ∧ (parseMethodDescriptor yX7_point.desc).map (fun d => d.parameters.length) = some 2 := by decide +kernel
set_option maxHeartbeats 4000000 in
set_option maxRecDepth 100000 in
theorem c_X7_point {l : Launch} {D : va_G} {cI cZ cF cL cD : ClassId} {ad : Nat → Nat} {N : Nat} (hI : ∀ i j, i < N → j < N → ad i = ad j → i = j) (hN : 46 ≤ N) {σ0 : Nat → va_E} {sz : Nat} {mo_fields : Int} {mo_bound : Int} {mo_pointX : Int → Int} {mo_pointY : Int → Int} {mo_points : Int} {mo_crossings : Int} {mo_isKnown : Int} {mo_commands : Int} {mo_needleX : Int} {mo_needleY : Int} {mo_hasFile : Int} {mo_format : Int} {mo_length : Int} {mo_heads : Int} {mo_late : Int} {mo_ran : Int} {mo_program : Int} {mo_thrown : Int} {mo_rowY : Int} {mo_stitches : Int} {p1 : Int} {p2 : Int} {R_mo_pointX : Int → Int} {R_mo_pointY : Int → Int} {R_mo_points : Int} (h_mo : σ0 19 = oC_mo ad mo_fields mo_bound mo_points mo_crossings mo_isKnown mo_commands mo_needleX mo_needleY mo_hasFile mo_format mo_length mo_heads mo_late mo_ran mo_program mo_thrown mo_rowY mo_stitches) (h_mo_pointX : σ0 31 = .inl (cI, 4096, .inl (zA mo_pointX))) (h_mo_pointY : σ0 32 = .inl (cI, 4096, .inl (zA mo_pointY))) (hf : f_X7_point mo_pointX mo_pointY mo_points p1 p2 = some (R_mo_pointX, R_mo_pointY, R_mo_points)) :
    Met l yX7_point (Cond.code yX7_point cX7_point 3 none :: wsL_law) rmX7_point (zPre D ad N (zT cI cZ cF cL cD) σ0 sz [.ref (ad 19), .int (zI p1), .int (zI p2)]) (zQv D ad N sz (fun σ' => σ' 19 = oC_mo ad mo_fields mo_bound R_mo_points mo_crossings mo_isKnown mo_commands mo_needleX mo_needleY mo_hasFile mo_format mo_length mo_heads mo_late mo_ran mo_program mo_thrown mo_rowY mo_stitches ∧ σ' 31 = .inl (cI, 4096, .inl (zA R_mo_pointX)) ∧ σ' 32 = .inl (cI, 4096, .inl (zA R_mo_pointY)) ∧ ∀ i : Nat, i ≠ 19 → i ≠ 31 → i ≠ 32 → σ' i = σ0 i)) 0 0 (zFr ad N sz) := by
  refine zMet hI (plainFor_of_name (by decide)) (Nat.le_of_ble_eq_true rfl) ⟨rfl, rfl⟩ ?_
  intro p e s m args below meth c Q hx hb hr hlocks hml hown hts hK hsz hQ hH hA ls hl
  subst hsz
  have hk_mo : 19 < N := by omega
  have hk_mo_pointX : 31 < N := by omega
  have hk_mo_pointY : 32 < N := by omega
  have hl : lv_has ls 3 [(0, .ref (ad 19)), (1, .int (zI p1)), (2, .int (zI p2))] := hl
  have hbg : ∀ i : Nat, i ≠ 19 → i ≠ 31 → i ≠ 32 → σ0 i = σ0 i := fun _ _ _ _ => rfl
  unfold f_X7_point at hf
  refine lv_aload_n hx hb dX7_point_0 rfl (lv_at hl 0 rfl) ?_
  refine zget hx hb inlX7 rfl 13 rfl zk_t4_126 hts hown hK hH hk_mo h_mo rfl dX7_point_1 ?_
  refine lv_aload_n hx hb dX7_point_4 rfl (lv_at hl 0 rfl) ?_
  refine zget hx hb inlX7 rfl 15 rfl zk_t4_128 hts hown hK hH hk_mo h_mo rfl dX7_point_5 ?_
  refine lv_iload_n hx hb dX7_point_8 rfl (lv_at hl 1 rfl) ?_
  obtain ⟨k1, hf⟩ := zck_some hf
  obtain ⟨a3, ea3, hf⟩ := zlt_some hf
  refine ziast hx hb hK hH hk_mo_pointX 0 h_mo_pointX rfl k1 rfl dX7_point_9 (fun σ2 Hσ2 lσ2 h_mo_pointX hn hH => ?_)
  rw [← ea3] at h_mo_pointX
  have h_mo := (hn 19 (by decide)).trans h_mo
  have h_mo_pointY := (hn 32 (by decide)).trans h_mo_pointY
  have hbg : ∀ i : Nat, i ≠ 19 → i ≠ 31 → i ≠ 32 → σ2 i = σ0 i := fun i a0 a1 a2 => (hn i a1).trans (hbg i a0 a1 a2)
  refine lv_aload_n hx hb dX7_point_10 rfl (lv_at hl 0 rfl) ?_
  refine zget hx hb inlX7 rfl 14 rfl zk_t4_127 hts hown hK hH hk_mo h_mo rfl dX7_point_11 ?_
  refine lv_aload_n hx hb dX7_point_14 rfl (lv_at hl 0 rfl) ?_
  refine zget hx hb inlX7 rfl 15 rfl zk_t4_128 hts hown hK hH hk_mo h_mo rfl dX7_point_15 ?_
  refine lv_iload_n hx hb dX7_point_18 rfl (lv_at hl 2 rfl) ?_
  obtain ⟨k4, hf⟩ := zck_some hf
  obtain ⟨a6, ea6, hf⟩ := zlt_some hf
  refine ziast hx hb hK hH hk_mo_pointY 0 h_mo_pointY rfl k4 rfl dX7_point_19 (fun σ5 Hσ5 lσ5 h_mo_pointY hn hH => ?_)
  rw [← ea6] at h_mo_pointY
  have h_mo := (hn 19 (by decide)).trans h_mo
  have h_mo_pointX := (hn 31 (by decide)).trans h_mo_pointX
  have hbg : ∀ i : Nat, i ≠ 19 → i ≠ 31 → i ≠ 32 → σ5 i = σ0 i := fun i a0 a1 a2 => (hn i a2).trans (hbg i a0 a1 a2)
  refine lv_aload_n hx hb dX7_point_20 rfl (lv_at hl 0 rfl) ?_
  refine lv_dup hx hb dX7_point_21 rfl ?_
  refine zget hx hb inlX7 rfl 15 rfl zk_t4_128 hts hown hK hH hk_mo h_mo rfl dX7_point_22 ?_
  refine lv_iconst (v := zI 1) hx hb dX7_point_25 (by decide +kernel) ?_
  refine lz_iadd hx hb dX7_point_26 ?_
  obtain ⟨v7, ev7, hf⟩ := zlt_some hf
  refine lz_nm ev7 ?_
  refine zput hx hb inlX7 tyX7 tyX7_ok nmX7 rfl 15 rfl zk_t4_128 rfl hts hown hK hH hk_mo h_mo rfl rfl rfl dX7_point_27 (fun σ8 Hσ8 lσ8 h_mo hn hH => ?_)
  have h_mo : σ8 19 = oC_mo ad mo_fields mo_bound v7 mo_crossings mo_isKnown mo_commands mo_needleX mo_needleY mo_hasFile mo_format mo_length mo_heads mo_late mo_ran mo_program mo_thrown mo_rowY mo_stitches := h_mo
  have h_mo_pointX := (hn 31 (by decide)).trans h_mo_pointX
  have h_mo_pointY := (hn 32 (by decide)).trans h_mo_pointY
  have hbg : ∀ i : Nat, i ≠ 19 → i ≠ 31 → i ≠ 32 → σ8 i = σ0 i := fun i a0 a1 a2 => (hn i a0).trans (hbg i a0 a1 a2)
  cases hf
  exact zretv hx hb hr hlocks hQ hH ⟨h_mo, h_mo_pointX, h_mo_pointY, hbg⟩ dX7_point_30
abbrev rmX7_crosses : Room := { frames := 1, cells := 0, slots := 0, locals := 23 }
theorem hd_X7_crosses : yX7_crosses.cls = RX7 ∧ yX7_crosses.cls ≠ "java/lang/invoke/MethodHandle" ∧ yX7_crosses.cls ≠ "java/lang/invoke/VarHandle" ∧ (parseMethodDescriptor yX7_crosses.desc).map (fun d => d.parameters.length) = some 2 := by decide +kernel
set_option maxHeartbeats 4000000 in
set_option maxRecDepth 100000 in
theorem c_X7_crosses {l : Launch} {D : va_G} {cI cZ cF cL cD : ClassId} {ad : Nat → Nat} {N : Nat} (hI : ∀ i j, i < N → j < N → ad i = ad j → i = j) (hN : 46 ≤ N) {σ0 : Nat → va_E} {sz : Nat} {mo_fields : Int} {mo_corners : Int → Int} {mo_cornerX : Int → Int} {mo_cornerY : Int → Int} {mo_bound : Int} {mo_points : Int} {mo_crossing : Int → Int} {mo_crossings : Int} {mo_isKnown : Int} {mo_commands : Int} {mo_needleX : Int} {mo_needleY : Int} {mo_hasFile : Int} {mo_format : Int} {mo_length : Int} {mo_heads : Int} {mo_late : Int} {mo_ran : Int} {mo_program : Int} {mo_thrown : Int} {mo_rowY : Int} {mo_stitches : Int} {p1 : Int} {p2 : Int} {R_mo_crossing : Int → Int} {R_mo_crossings : Int} (h_mo : σ0 19 = oC_mo ad mo_fields mo_bound mo_points mo_crossings mo_isKnown mo_commands mo_needleX mo_needleY mo_hasFile mo_format mo_length mo_heads mo_late mo_ran mo_program mo_thrown mo_rowY mo_stitches) (h_mo_corners : σ0 23 = .inl (cI, 8, .inl (zA mo_corners))) (h_mo_cornerX : σ0 24 = .inl (cI, 64, .inl (zA mo_cornerX))) (h_mo_cornerY : σ0 25 = .inl (cI, 64, .inl (zA mo_cornerY))) (h_mo_crossing : σ0 33 = .inl (cI, 8, .inl (zA mo_crossing))) (hf : f_X7_crosses mo_corners mo_cornerX mo_cornerY mo_crossing mo_crossings p1 p2 = some (R_mo_crossing, R_mo_crossings)) :
    Met l yX7_crosses (Cond.code yX7_crosses cX7_crosses 11 none :: wsL_law) rmX7_crosses (zPre D ad N (zT cI cZ cF cL cD) σ0 sz [.ref (ad 19), .int (zI p1), .int (zI p2)]) (zQv D ad N sz (fun σ' => σ' 19 = oC_mo ad mo_fields mo_bound mo_points R_mo_crossings mo_isKnown mo_commands mo_needleX mo_needleY mo_hasFile mo_format mo_length mo_heads mo_late mo_ran mo_program mo_thrown mo_rowY mo_stitches ∧ σ' 33 = .inl (cI, 8, .inl (zA R_mo_crossing)) ∧ ∀ i : Nat, i ≠ 19 → i ≠ 33 → σ' i = σ0 i)) 0 0 (zFr ad N sz) := by
  refine zMet hI (plainFor_of_name (by decide)) (Nat.le_of_ble_eq_true rfl) ⟨rfl, rfl⟩ ?_
  intro p e s m args below meth c Q hx hb hr hlocks hml hown hts hK hsz hQ hH hA ls hl
  subst hsz
  have hk_mo : 19 < N := by omega
  have hk_mo_corners : 23 < N := by omega
  have hk_mo_cornerX : 24 < N := by omega
  have hk_mo_cornerY : 25 < N := by omega
  have hk_mo_crossing : 33 < N := by omega
  have hl : lv_has ls 11 [(0, .ref (ad 19)), (1, .int (zI p1)), (2, .int (zI p2))] := hl
  have hbg : ∀ i : Nat, i ≠ 19 → i ≠ 33 → σ0 i = σ0 i := fun _ _ _ => rfl
  have L7 : ∀ (x1 : Int) (x2 : Int)  (n : Nat) (x3 : Int) (mo_crossing : Int → Int) (mo_crossings : Int) (x3' : Int) (mo_crossing' : Int → Int) (mo_crossings' : Int), zlp (fun z => f_X7_crosses_L7 mo_corners mo_cornerX mo_cornerY x1 x2 z.1 z.2.1 z.2.2) n (x3, mo_crossing, mo_crossings) = some (x3', mo_crossing', mo_crossings') → ∀ (σ : Nat → va_E) (H : Heap) (locs : List Loc) (hH : zH D ad N (zFr ad N s.heap.size) s.heap σ H locs) (h_mo : σ 19 = oC_mo ad mo_fields mo_bound mo_points mo_crossings mo_isKnown mo_commands mo_needleX mo_needleY mo_hasFile mo_format mo_length mo_heads mo_late mo_ran mo_program mo_thrown mo_rowY mo_stitches) (h_mo_corners : σ 23 = .inl (cI, 8, .inl (zA mo_corners))) (h_mo_cornerX : σ 24 = .inl (cI, 64, .inl (zA mo_cornerX))) (h_mo_cornerY : σ 25 = .inl (cI, 64, .inl (zA mo_cornerY))) (h_mo_crossing : σ 33 = .inl (cI, 8, .inl (zA mo_crossing))) (hbg : ∀ i : Nat, i ≠ 19 → i ≠ 33 → σ i = σ0 i) (ls : Array Slot) (hl : lv_has ls 11 [(0, .ref (ad 19)), (1, .int (zI x1)), (2, .int (zI x2)), (3, .int (zI x3))]), (∀ (σ : Nat → va_E) (H : Heap) (locs : List Loc) (hH : zH D ad N (zFr ad N s.heap.size) s.heap σ H locs) (h_mo : σ 19 = oC_mo ad mo_fields mo_bound mo_points (mo_crossings') mo_isKnown mo_commands mo_needleX mo_needleY mo_hasFile mo_format mo_length mo_heads mo_late mo_ran mo_program mo_thrown mo_rowY mo_stitches) (h_mo_corners : σ 23 = .inl (cI, 8, .inl (zA mo_corners))) (h_mo_cornerX : σ 24 = .inl (cI, 64, .inl (zA mo_cornerX))) (h_mo_cornerY : σ 25 = .inl (cI, 64, .inl (zA mo_cornerY))) (h_mo_crossing : σ 33 = .inl (cI, 8, .inl (zA (mo_crossing')))) (hbg : ∀ i : Nat, i ≠ 19 → i ≠ 33 → σ i = σ0 i) (ls : Array Slot) (hl : lv_has ls 11 []), W p l e rmX7_crosses s m args below meth c H locs 0 0 Q (F0 m 221 ls [])) → W p l e rmX7_crosses s m args below meth c H locs 0 0 Q (F0 m 7 ls []) := by
    intro x1 x2 n
    induction n with
    | zero => intro x3 mo_crossing mo_crossings x3' mo_crossing' mo_crossings' hz; exact (zlp_0 hz).elim
    | succ n ih =>
      intro x3 mo_crossing mo_crossings x3' mo_crossing' mo_crossings' hz σ H locs hH h_mo h_mo_corners h_mo_cornerX h_mo_cornerY h_mo_crossing hbg ls hl kx
      obtain ⟨nx, hf, hnx⟩ := zlp_some hz
      have hf : f_X7_crosses_L7 mo_corners mo_cornerX mo_cornerY x1 x2 x3 mo_crossing mo_crossings = some nx := hf
      have JL7_196 : ∀ (mo_crossing : Int → Int) (mo_crossings : Int) (x3 : Int) (x9 : Int) (x10 : Int) (σ : Nat → va_E) (H : Heap) (locs : List Loc) (hH : zH D ad N (zFr ad N s.heap.size) s.heap σ H locs) (h_mo : σ 19 = oC_mo ad mo_fields mo_bound mo_points mo_crossings mo_isKnown mo_commands mo_needleX mo_needleY mo_hasFile mo_format mo_length mo_heads mo_late mo_ran mo_program mo_thrown mo_rowY mo_stitches) (h_mo_corners : σ 23 = .inl (cI, 8, .inl (zA mo_corners))) (h_mo_cornerX : σ 24 = .inl (cI, 64, .inl (zA mo_cornerX))) (h_mo_cornerY : σ 25 = .inl (cI, 64, .inl (zA mo_cornerY))) (h_mo_crossing : σ 33 = .inl (cI, 8, .inl (zA mo_crossing))) (hbg : ∀ i : Nat, i ≠ 19 → i ≠ 33 → σ i = σ0 i) (ls : Array Slot) (hl : lv_has ls 11 [(0, .ref (ad 19)), (1, .int (zI x1)), (2, .int (zI x2)), (3, .int (zI x3)), (9, .int (zI x9)), (10, .int (zI x10))]), f_X7_crosses_L7_196 mo_corners mo_cornerX mo_cornerY mo_crossing mo_crossings x1 x2 x3 x9 x10 = some nx → W p l e rmX7_crosses s m args below meth c H locs 0 0 Q (F0 m 196 ls []) := by
        intro mo_crossing mo_crossings x3 x9 x10 σ H locs hH h_mo h_mo_corners h_mo_cornerX h_mo_cornerY h_mo_crossing hbg ls hl hf
        unfold f_X7_crosses_L7_196 at hf
        refine lv_aload_n hx hb dX7_crosses_196 rfl (lv_at hl 0 rfl) ?_
        refine zget hx hb inlX7 rfl 16 rfl zk_t4_129 hts hown hK hH hk_mo h_mo rfl dX7_crosses_197 ?_
        refine lv_iload hx hb dX7_crosses_200 (lv_at hl 5 rfl) ?_
        refine lv_iload hx hb dX7_crosses_202 (lv_at hl 4 rfl) ?_
        obtain ⟨k1, hf⟩ := zck_some hf
        obtain ⟨a3, ea3, hf⟩ := zlt_some hf
        refine ziast hx hb hK hH hk_mo_crossing 0 h_mo_crossing rfl k1 rfl dX7_crosses_204 (fun σ2 Hσ2 lσ2 h_mo_crossing hn hH => ?_)
        rw [← ea3] at h_mo_crossing
        have h_mo := (hn 19 (by decide)).trans h_mo
        have h_mo_corners := (hn 23 (by decide)).trans h_mo_corners
        have h_mo_cornerX := (hn 24 (by decide)).trans h_mo_cornerX
        have h_mo_cornerY := (hn 25 (by decide)).trans h_mo_cornerY
        have hbg : ∀ i : Nat, i ≠ 19 → i ≠ 33 → σ2 i = σ0 i := fun i a0 a1 => (hn i a1).trans (hbg i a0 a1)
        refine lv_aload_n hx hb dX7_crosses_205 rfl (lv_at hl 0 rfl) ?_
        refine lv_dup hx hb dX7_crosses_206 rfl ?_
        refine zget hx hb inlX7 rfl 17 rfl zk_t4_130 hts hown hK hH hk_mo h_mo rfl dX7_crosses_207 ?_
        refine lv_iconst (v := zI 1) hx hb dX7_crosses_210 (by decide +kernel) ?_
        refine lz_iadd hx hb dX7_crosses_211 ?_
        obtain ⟨v4, ev4, hf⟩ := zlt_some hf
        refine lz_nm ev4 ?_
        refine zput hx hb inlX7 tyX7 tyX7_ok nmX7 rfl 17 rfl zk_t4_130 rfl hts hown hK hH hk_mo h_mo rfl rfl rfl dX7_crosses_212 (fun σ5 Hσ5 lσ5 h_mo hn hH => ?_)
        have h_mo : σ5 19 = oC_mo ad mo_fields mo_bound mo_points v4 mo_isKnown mo_commands mo_needleX mo_needleY mo_hasFile mo_format mo_length mo_heads mo_late mo_ran mo_program mo_thrown mo_rowY mo_stitches := h_mo
        have h_mo_corners := (hn 23 (by decide)).trans h_mo_corners
        have h_mo_cornerX := (hn 24 (by decide)).trans h_mo_cornerX
        have h_mo_cornerY := (hn 25 (by decide)).trans h_mo_cornerY
        have h_mo_crossing := (hn 33 (by decide)).trans h_mo_crossing
        have hbg : ∀ i : Nat, i ≠ 19 → i ≠ 33 → σ5 i = σ0 i := fun i a0 a1 => (hn i a0).trans (hbg i a0 a1)
        refine lz_iinc (lv' := [(3, .int (zI (x3 + 1))), (0, .ref (ad 19)), (1, .int (zI x1)), (2, .int (zI x2)), (9, .int (zI x9)), (10, .int (zI x10))]) hx hb dX7_crosses_215 hl (j := 3) rfl (by decide) rfl (fun ls hl => ?_)
        refine lv_goto (tgt := 7) hx hb dX7_crosses_218 (by decide) ?_
        cases hf
        exact ih (x3 + 1) a3 v4 _ _ _ hnx _ _ _ hH h_mo h_mo_corners h_mo_cornerX h_mo_cornerY h_mo_crossing hbg _ (lv_sub hl [1, 2, 3, 0] rfl) kx
      have L155 : ∀ (mo_crossings : Int) (x1 : Int) (x2 : Int) (x3 : Int) (x9 : Int)  (n : Nat) (x10 : Int) (mo_crossing : Int → Int) (x10' : Int) (mo_crossing' : Int → Int), zlp (fun z => f_X7_crosses_L155 mo_corners mo_cornerX mo_cornerY mo_crossings x1 x2 x3 x9 z.1 z.2) n (x10, mo_crossing) = some (x10', mo_crossing') → ∀ (σ : Nat → va_E) (H : Heap) (locs : List Loc) (hH : zH D ad N (zFr ad N s.heap.size) s.heap σ H locs) (h_mo : σ 19 = oC_mo ad mo_fields mo_bound mo_points mo_crossings mo_isKnown mo_commands mo_needleX mo_needleY mo_hasFile mo_format mo_length mo_heads mo_late mo_ran mo_program mo_thrown mo_rowY mo_stitches) (h_mo_corners : σ 23 = .inl (cI, 8, .inl (zA mo_corners))) (h_mo_cornerX : σ 24 = .inl (cI, 64, .inl (zA mo_cornerX))) (h_mo_cornerY : σ 25 = .inl (cI, 64, .inl (zA mo_cornerY))) (h_mo_crossing : σ 33 = .inl (cI, 8, .inl (zA mo_crossing))) (hbg : ∀ i : Nat, i ≠ 19 → i ≠ 33 → σ i = σ0 i) (ls : Array Slot) (hl : lv_has ls 11 [(0, .ref (ad 19)), (1, .int (zI x1)), (2, .int (zI x2)), (3, .int (zI x3)), (9, .int (zI x9)), (10, .int (zI x10))]), (∀ (σ : Nat → va_E) (H : Heap) (locs : List Loc) (hH : zH D ad N (zFr ad N s.heap.size) s.heap σ H locs) (h_mo : σ 19 = oC_mo ad mo_fields mo_bound mo_points mo_crossings mo_isKnown mo_commands mo_needleX mo_needleY mo_hasFile mo_format mo_length mo_heads mo_late mo_ran mo_program mo_thrown mo_rowY mo_stitches) (h_mo_corners : σ 23 = .inl (cI, 8, .inl (zA mo_corners))) (h_mo_cornerX : σ 24 = .inl (cI, 64, .inl (zA mo_cornerX))) (h_mo_cornerY : σ 25 = .inl (cI, 64, .inl (zA mo_cornerY))) (h_mo_crossing : σ 33 = .inl (cI, 8, .inl (zA (mo_crossing')))) (hbg : ∀ i : Nat, i ≠ 19 → i ≠ 33 → σ i = σ0 i) (ls : Array Slot) (hl : lv_has ls 11 [(0, .ref (ad 19)), (1, .int (zI x1)), (2, .int (zI x2)), (3, .int (zI x3)), (9, .int (zI x9)), (10, .int (zI (x10')))]), W p l e rmX7_crosses s m args below meth c H locs 0 0 Q (F0 m 196 ls [])) → W p l e rmX7_crosses s m args below meth c H locs 0 0 Q (F0 m 155 ls []) := by
        intro mo_crossings x1 x2 x3 x9 n
        induction n with
        | zero => intro x10 mo_crossing x10' mo_crossing' hz; exact (zlp_0 hz).elim
        | succ n ih =>
          intro x10 mo_crossing x10' mo_crossing' hz σ H locs hH h_mo h_mo_corners h_mo_cornerX h_mo_cornerY h_mo_crossing hbg ls hl kx
          obtain ⟨nx, hf, hnx⟩ := zlp_some hz
          have hf : f_X7_crosses_L155 mo_corners mo_cornerX mo_cornerY mo_crossings x1 x2 x3 x9 x10 mo_crossing = some nx := hf
          unfold f_X7_crosses_L155 at hf
          refine lv_iload hx hb dX7_crosses_155 (lv_at hl 5 rfl) ?_
          obtain ⟨k6, hf⟩ := zck_some hf
          refine lz_if_le (tgt := 196) hx hb k6 dX7_crosses_157 (by decide) (fun c7 => ?_) (fun c7 => ?_)
          · replace hf := (if_pos c7).symm.trans hf
            cases hf
            cases hnx
            exact kx _ _ _ hH h_mo h_mo_corners h_mo_cornerX h_mo_cornerY h_mo_crossing hbg _ (lv_sub hl [0, 1, 2, 3, 4, 5] rfl)
          · replace hf := (if_neg c7).symm.trans hf
            refine lv_aload_n hx hb dX7_crosses_160 rfl (lv_at hl 0 rfl) ?_
            refine zget hx hb inlX7 rfl 16 rfl zk_t4_129 hts hown hK hH hk_mo h_mo rfl dX7_crosses_161 ?_
            refine lv_iload hx hb dX7_crosses_164 (lv_at hl 5 rfl) ?_
            refine lv_iconst (v := zI 1) hx hb dX7_crosses_166 (by decide +kernel) ?_
            refine lz_isub hx hb dX7_crosses_167 ?_
            obtain ⟨k8, hf⟩ := zck_some hf
            refine ziald hx hb hK hH hk_mo_crossing 0 h_mo_crossing rfl k8 rfl dX7_crosses_168 ?_
            refine lv_iload hx hb dX7_crosses_169 (lv_at hl 4 rfl) ?_
            obtain ⟨k9, hf⟩ := zck_some hf
            refine lz_icmp_le (tgt := 196) hx hb k9 dX7_crosses_171 (by decide) (fun c10 => ?_) (fun c10 => ?_)
            · replace hf := (if_pos c10).symm.trans hf
              cases hf
              cases hnx
              exact kx _ _ _ hH h_mo h_mo_corners h_mo_cornerX h_mo_cornerY h_mo_crossing hbg _ (lv_sub hl [0, 1, 2, 3, 4, 5] rfl)
            · replace hf := (if_neg c10).symm.trans hf
              refine lv_aload_n hx hb dX7_crosses_174 rfl (lv_at hl 0 rfl) ?_
              refine zget hx hb inlX7 rfl 16 rfl zk_t4_129 hts hown hK hH hk_mo h_mo rfl dX7_crosses_175 ?_
              refine lv_iload hx hb dX7_crosses_178 (lv_at hl 5 rfl) ?_
              refine lv_aload_n hx hb dX7_crosses_180 rfl (lv_at hl 0 rfl) ?_
              refine zget hx hb inlX7 rfl 16 rfl zk_t4_129 hts hown hK hH hk_mo h_mo rfl dX7_crosses_181 ?_
              refine lv_iload hx hb dX7_crosses_184 (lv_at hl 5 rfl) ?_
              refine lv_iconst (v := zI 1) hx hb dX7_crosses_186 (by decide +kernel) ?_
              refine lz_isub hx hb dX7_crosses_187 ?_
              obtain ⟨k11, hf⟩ := zck_some hf
              refine ziald hx hb hK hH hk_mo_crossing 0 h_mo_crossing rfl k11 rfl dX7_crosses_188 ?_
              obtain ⟨k12, hf⟩ := zck_some hf
              obtain ⟨a14, ea14, hf⟩ := zlt_some hf
              refine ziast hx hb hK hH hk_mo_crossing 0 h_mo_crossing rfl k12 rfl dX7_crosses_189 (fun σ13 Hσ13 lσ13 h_mo_crossing hn hH => ?_)
              rw [← ea14] at h_mo_crossing
              have h_mo := (hn 19 (by decide)).trans h_mo
              have h_mo_corners := (hn 23 (by decide)).trans h_mo_corners
              have h_mo_cornerX := (hn 24 (by decide)).trans h_mo_cornerX
              have h_mo_cornerY := (hn 25 (by decide)).trans h_mo_cornerY
              have hbg : ∀ i : Nat, i ≠ 19 → i ≠ 33 → σ13 i = σ0 i := fun i a0 a1 => (hn i a1).trans (hbg i a0 a1)
              refine lz_iinc (lv' := [(10, .int (zI (x10 + (-1)))), (0, .ref (ad 19)), (1, .int (zI x1)), (2, .int (zI x2)), (3, .int (zI x3)), (9, .int (zI x9))]) hx hb dX7_crosses_190 hl (j := 5) rfl (by decide) rfl (fun ls hl => ?_)
              refine lv_goto (tgt := 155) hx hb dX7_crosses_193 (by decide) ?_
              cases hf
              exact ih (x10 + (-1)) a14 _ _ hnx _ _ _ hH h_mo h_mo_corners h_mo_cornerX h_mo_cornerY h_mo_crossing hbg _ (lv_sub hl [1, 2, 3, 4, 5, 0] rfl) kx
      have JL7_104 : ∀ (mo_crossing : Int → Int) (mo_crossings : Int) (x3 : Int) (x4 : Int) (x5 : Int) (x6 : Int) (x7 : Int) (s0 : Int) (σ : Nat → va_E) (H : Heap) (locs : List Loc) (hH : zH D ad N (zFr ad N s.heap.size) s.heap σ H locs) (h_mo : σ 19 = oC_mo ad mo_fields mo_bound mo_points mo_crossings mo_isKnown mo_commands mo_needleX mo_needleY mo_hasFile mo_format mo_length mo_heads mo_late mo_ran mo_program mo_thrown mo_rowY mo_stitches) (h_mo_corners : σ 23 = .inl (cI, 8, .inl (zA mo_corners))) (h_mo_cornerX : σ 24 = .inl (cI, 64, .inl (zA mo_cornerX))) (h_mo_cornerY : σ 25 = .inl (cI, 64, .inl (zA mo_cornerY))) (h_mo_crossing : σ 33 = .inl (cI, 8, .inl (zA mo_crossing))) (hbg : ∀ i : Nat, i ≠ 19 → i ≠ 33 → σ i = σ0 i) (ls : Array Slot) (hl : lv_has ls 11 [(0, .ref (ad 19)), (1, .int (zI x1)), (2, .int (zI x2)), (3, .int (zI x3)), (4, .int (zI x4)), (5, .int (zI x5)), (6, .int (zI x6)), (7, .int (zI x7))]), f_X7_crosses_L7_104 mo_corners mo_cornerX mo_cornerY mo_crossing mo_crossings x1 x2 x3 x4 x5 x6 x7 s0 = some nx → W p l e rmX7_crosses s m args below meth c H locs 0 0 Q (F0 m 104 ls [.int (zI s0)]) := by
        intro mo_crossing mo_crossings x3 x4 x5 x6 x7 s0 σ H locs hH h_mo h_mo_corners h_mo_cornerX h_mo_cornerY h_mo_crossing hbg ls hl hf
        unfold f_X7_crosses_L7_104 at hf
        refine lv_istore (lv' := [(8, .int (zI s0)), (0, .ref (ad 19)), (1, .int (zI x1)), (2, .int (zI x2)), (3, .int (zI x3)), (4, .int (zI x4)), (5, .int (zI x5)), (6, .int (zI x6)), (7, .int (zI x7))]) hx hb dX7_crosses_104 hl (by decide) rfl (fun ls hl => ?_)
        refine lv_iload hx hb dX7_crosses_106 (lv_at hl 0 rfl) ?_
        obtain ⟨k15, hf⟩ := zck_some hf
        refine lz_if_eq (tgt := 215) hx hb k15 dX7_crosses_108 (by decide) (fun c16 => ?_) (fun c16 => ?_)
        · replace hf := (if_pos c16).symm.trans hf
          refine lz_iinc (lv' := [(3, .int (zI (x3 + 1))), (8, .int (zI s0)), (0, .ref (ad 19)), (1, .int (zI x1)), (2, .int (zI x2)), (4, .int (zI x4)), (5, .int (zI x5)), (6, .int (zI x6)), (7, .int (zI x7))]) hx hb dX7_crosses_215 hl (j := 4) rfl (by decide) rfl (fun ls hl => ?_)
          refine lv_goto (tgt := 7) hx hb dX7_crosses_218 (by decide) ?_
          cases hf
          exact ih (x3 + 1) mo_crossing mo_crossings _ _ _ hnx _ _ _ hH h_mo h_mo_corners h_mo_cornerX h_mo_cornerY h_mo_crossing hbg _ (lv_sub hl [2, 3, 4, 0] rfl) kx
        · replace hf := (if_neg c16).symm.trans hf
          refine lv_aload_n hx hb dX7_crosses_111 rfl (lv_at hl 1 rfl) ?_
          refine zget hx hb inlX7 rfl 5 rfl zk_t4_118 hts hown hK hH hk_mo h_mo rfl dX7_crosses_112 ?_
          refine lv_iload hx hb dX7_crosses_115 (lv_at hl 5 rfl) ?_
          obtain ⟨k17, hf⟩ := zck_some hf
          refine ziald hx hb hK hH hk_mo_cornerX 0 h_mo_cornerX rfl k17 rfl dX7_crosses_117 ?_
          refine lv_iload_n hx hb dX7_crosses_118 rfl (lv_at hl 3 rfl) ?_
          refine lv_iload hx hb dX7_crosses_119 (lv_at hl 7 rfl) ?_
          refine lz_isub hx hb dX7_crosses_121 ?_
          refine lv_aload_n hx hb dX7_crosses_122 rfl (lv_at hl 1 rfl) ?_
          refine zget hx hb inlX7 rfl 5 rfl zk_t4_118 hts hown hK hH hk_mo h_mo rfl dX7_crosses_123 ?_
          refine lv_iload hx hb dX7_crosses_126 (lv_at hl 6 rfl) ?_
          obtain ⟨k18, hf⟩ := zck_some hf
          refine ziald hx hb hK hH hk_mo_cornerX 0 h_mo_cornerX rfl k18 rfl dX7_crosses_128 ?_
          refine lv_aload_n hx hb dX7_crosses_129 rfl (lv_at hl 1 rfl) ?_
          refine zget hx hb inlX7 rfl 5 rfl zk_t4_118 hts hown hK hH hk_mo h_mo rfl dX7_crosses_130 ?_
          refine lv_iload hx hb dX7_crosses_133 (lv_at hl 5 rfl) ?_
          obtain ⟨k19, hf⟩ := zck_some hf
          refine ziald hx hb hK hH hk_mo_cornerX 0 h_mo_cornerX rfl k19 rfl dX7_crosses_135 ?_
          refine lz_isub hx hb dX7_crosses_136 ?_
          refine lz_imul hx hb dX7_crosses_137 ?_
          refine lv_iload hx hb dX7_crosses_138 (lv_at hl 8 rfl) ?_
          refine lv_iload hx hb dX7_crosses_140 (lv_at hl 7 rfl) ?_
          refine lz_isub hx hb dX7_crosses_142 ?_
          obtain ⟨r20, k21, hf⟩ := zb1_some hf
          refine zcSi (As := [.int (zI ((x2 - x6) * ((mo_cornerX x5) - (mo_cornerX x4)))), .int (zI (x7 - x6))]) (rest := [.int (zI (mo_cornerX x4))]) hx hb hml hown hts hl.1 hK hH hA (c_X7_down hI hN   k21) zk_t5_65 zk_t5_66 zk_t1_6 zk_t5_67 hd_X7_down rfl ⟨rfl, rfl, Nat.le_of_ble_eq_true rfl, Nat.le_of_ble_eq_true rfl⟩ ⟨Nat.zero_le _, Nat.zero_le _⟩ rfl (Nat.le_of_ble_eq_true rfl) dX7_crosses_143 (fun q23 σ22 Hσ22 lσ22 hp hH => ?_)
          obtain ⟨hr1, hs1⟩ := hp; subst hr1; rw [hs1] at hH
          refine lz_iadd hx hb dX7_crosses_146 ?_
          obtain ⟨v24, ev24, hf⟩ := zlt_some hf
          refine lz_nm ev24 ?_
          refine lv_istore (lv' := [(9, .int (zI v24)), (8, .int (zI s0)), (0, .ref (ad 19)), (1, .int (zI x1)), (2, .int (zI x2)), (3, .int (zI x3)), (4, .int (zI x4)), (5, .int (zI x5)), (6, .int (zI x6)), (7, .int (zI x7))]) hx hb dX7_crosses_147 hl (by decide) rfl (fun ls hl => ?_)
          refine lv_aload_n hx hb dX7_crosses_149 rfl (lv_at hl 2 rfl) ?_
          refine zget hx hb inlX7 rfl 17 rfl zk_t4_130 hts hown hK hH hk_mo h_mo rfl dX7_crosses_150 ?_
          refine lv_istore (lv' := [(10, .int (zI mo_crossings)), (9, .int (zI v24)), (8, .int (zI s0)), (0, .ref (ad 19)), (1, .int (zI x1)), (2, .int (zI x2)), (3, .int (zI x3)), (4, .int (zI x4)), (5, .int (zI x5)), (6, .int (zI x6)), (7, .int (zI x7))]) hx hb dX7_crosses_153 hl (by decide) rfl (fun ls hl => ?_)
          obtain ⟨w26, w27, k25, hf⟩ := zb2_some hf
          refine L155 mo_crossings x1 x2 x3 v24 zFU mo_crossings mo_crossing w26 w27 k25 _ _ _ hH h_mo h_mo_corners h_mo_cornerX h_mo_cornerY h_mo_crossing hbg _ (lv_sub hl [3, 4, 5, 6, 1, 0] rfl) (fun σ28 Hσ28 lσ28 hH h_mo h_mo_corners h_mo_cornerX h_mo_cornerY h_mo_crossing hbg ls hl => ?_)
          exact JL7_196 w27 mo_crossings x3 v24 w26 _ _ _ hH h_mo h_mo_corners h_mo_cornerX h_mo_cornerY h_mo_crossing hbg _ (lv_sub hl [0, 1, 2, 3, 4, 5] rfl) hf
      have JL7_103 : ∀ (mo_crossing : Int → Int) (mo_crossings : Int) (x3 : Int) (x4 : Int) (x5 : Int) (x6 : Int) (x7 : Int) (σ : Nat → va_E) (H : Heap) (locs : List Loc) (hH : zH D ad N (zFr ad N s.heap.size) s.heap σ H locs) (h_mo : σ 19 = oC_mo ad mo_fields mo_bound mo_points mo_crossings mo_isKnown mo_commands mo_needleX mo_needleY mo_hasFile mo_format mo_length mo_heads mo_late mo_ran mo_program mo_thrown mo_rowY mo_stitches) (h_mo_corners : σ 23 = .inl (cI, 8, .inl (zA mo_corners))) (h_mo_cornerX : σ 24 = .inl (cI, 64, .inl (zA mo_cornerX))) (h_mo_cornerY : σ 25 = .inl (cI, 64, .inl (zA mo_cornerY))) (h_mo_crossing : σ 33 = .inl (cI, 8, .inl (zA mo_crossing))) (hbg : ∀ i : Nat, i ≠ 19 → i ≠ 33 → σ i = σ0 i) (ls : Array Slot) (hl : lv_has ls 11 [(0, .ref (ad 19)), (1, .int (zI x1)), (2, .int (zI x2)), (3, .int (zI x3)), (4, .int (zI x4)), (5, .int (zI x5)), (6, .int (zI x6)), (7, .int (zI x7))]), f_X7_crosses_L7_103 mo_corners mo_cornerX mo_cornerY mo_crossing mo_crossings x1 x2 x3 x4 x5 x6 x7 = some nx → W p l e rmX7_crosses s m args below meth c H locs 0 0 Q (F0 m 103 ls []) := by
        intro mo_crossing mo_crossings x3 x4 x5 x6 x7 σ H locs hH h_mo h_mo_corners h_mo_cornerX h_mo_cornerY h_mo_crossing hbg ls hl hf
        unfold f_X7_crosses_L7_103 at hf
        refine lv_iconst (v := zI 0) hx hb dX7_crosses_103 (by decide +kernel) ?_
        exact JL7_104 mo_crossing mo_crossings x3 x4 x5 x6 x7 0 _ _ _ hH h_mo h_mo_corners h_mo_cornerX h_mo_cornerY h_mo_crossing hbg _ (lv_sub hl [0, 1, 2, 3, 4, 5, 6, 7] rfl) hf
      have JL7_83 : ∀ (mo_crossing : Int → Int) (mo_crossings : Int) (x3 : Int) (x4 : Int) (x5 : Int) (x6 : Int) (x7 : Int) (σ : Nat → va_E) (H : Heap) (locs : List Loc) (hH : zH D ad N (zFr ad N s.heap.size) s.heap σ H locs) (h_mo : σ 19 = oC_mo ad mo_fields mo_bound mo_points mo_crossings mo_isKnown mo_commands mo_needleX mo_needleY mo_hasFile mo_format mo_length mo_heads mo_late mo_ran mo_program mo_thrown mo_rowY mo_stitches) (h_mo_corners : σ 23 = .inl (cI, 8, .inl (zA mo_corners))) (h_mo_cornerX : σ 24 = .inl (cI, 64, .inl (zA mo_cornerX))) (h_mo_cornerY : σ 25 = .inl (cI, 64, .inl (zA mo_cornerY))) (h_mo_crossing : σ 33 = .inl (cI, 8, .inl (zA mo_crossing))) (hbg : ∀ i : Nat, i ≠ 19 → i ≠ 33 → σ i = σ0 i) (ls : Array Slot) (hl : lv_has ls 11 [(0, .ref (ad 19)), (1, .int (zI x1)), (2, .int (zI x2)), (3, .int (zI x3)), (4, .int (zI x4)), (5, .int (zI x5)), (6, .int (zI x6)), (7, .int (zI x7))]), f_X7_crosses_L7_83 mo_corners mo_cornerX mo_cornerY mo_crossing mo_crossings x1 x2 x3 x4 x5 x6 x7 = some nx → W p l e rmX7_crosses s m args below meth c H locs 0 0 Q (F0 m 83 ls []) := by
        intro mo_crossing mo_crossings x3 x4 x5 x6 x7 σ H locs hH h_mo h_mo_corners h_mo_cornerX h_mo_cornerY h_mo_crossing hbg ls hl hf
        unfold f_X7_crosses_L7_83 at hf
        refine lv_iconst (v := zI 0) hx hb dX7_crosses_83 (by decide +kernel) ?_
        refine lv_goto (tgt := 104) hx hb dX7_crosses_84 (by decide) ?_
        exact JL7_104 mo_crossing mo_crossings x3 x4 x5 x6 x7 0 _ _ _ hH h_mo h_mo_corners h_mo_cornerX h_mo_cornerY h_mo_crossing hbg _ (lv_sub hl [0, 1, 2, 3, 4, 5, 6, 7] rfl) hf
      unfold f_X7_crosses_L7 at hf
      refine lv_iload_n hx hb dX7_crosses_7 rfl (lv_at hl 3 rfl) ?_
      refine lv_aload_n hx hb dX7_crosses_8 rfl (lv_at hl 0 rfl) ?_
      refine zget hx hb inlX7 rfl 4 rfl zk_t4_117 hts hown hK hH hk_mo h_mo rfl dX7_crosses_9 ?_
      refine lv_iload_n hx hb dX7_crosses_12 rfl (lv_at hl 1 rfl) ?_
      obtain ⟨k29, hf⟩ := zck_some hf
      refine ziald hx hb hK hH hk_mo_corners 0 h_mo_corners rfl k29 rfl dX7_crosses_13 ?_
      obtain ⟨k30, hf⟩ := zck_some hf
      refine lz_icmp_ge (tgt := 221) hx hb k30 dX7_crosses_14 (by decide) (fun c31 => ?_) (fun c31 => ?_)
      · replace hf := (if_pos c31).symm.trans hf
        cases hf
        cases hnx
        exact kx _ _ _ hH h_mo h_mo_corners h_mo_cornerX h_mo_cornerY h_mo_crossing hbg _ (lv_sub hl [] rfl)
      · replace hf := (if_neg c31).symm.trans hf
        refine lv_bipush (v := zI 8) hx hb dX7_crosses_17 (by decide +kernel) ?_
        refine lv_iload_n hx hb dX7_crosses_19 rfl (lv_at hl 1 rfl) ?_
        refine lz_imul hx hb dX7_crosses_20 ?_
        refine lv_iload_n hx hb dX7_crosses_21 rfl (lv_at hl 3 rfl) ?_
        refine lz_iadd hx hb dX7_crosses_22 ?_
        obtain ⟨v32, ev32, hf⟩ := zlt_some hf
        refine lz_nm ev32 ?_
        refine lv_istore (lv' := [(4, .int (zI v32)), (0, .ref (ad 19)), (1, .int (zI x1)), (2, .int (zI x2)), (3, .int (zI x3))]) hx hb dX7_crosses_23 hl (by decide) rfl (fun ls hl => ?_)
        refine lv_bipush (v := zI 8) hx hb dX7_crosses_25 (by decide +kernel) ?_
        refine lv_iload_n hx hb dX7_crosses_27 rfl (lv_at hl 2 rfl) ?_
        refine lz_imul hx hb dX7_crosses_28 ?_
        refine lv_iload_n hx hb dX7_crosses_29 rfl (lv_at hl 4 rfl) ?_
        refine lv_iconst (v := zI 1) hx hb dX7_crosses_30 (by decide +kernel) ?_
        refine lz_iadd hx hb dX7_crosses_31 ?_
        refine lv_aload_n hx hb dX7_crosses_32 rfl (lv_at hl 1 rfl) ?_
        refine zget hx hb inlX7 rfl 4 rfl zk_t4_117 hts hown hK hH hk_mo h_mo rfl dX7_crosses_33 ?_
        refine lv_iload_n hx hb dX7_crosses_36 rfl (lv_at hl 2 rfl) ?_
        obtain ⟨k33, hf⟩ := zck_some hf
        refine ziald hx hb hK hH hk_mo_corners 0 h_mo_corners rfl k33 rfl dX7_crosses_37 ?_
        obtain ⟨k34, hf⟩ := zck_some hf
        refine lz_irem hx hb k34 dX7_crosses_38 ?_
        refine lz_iadd hx hb dX7_crosses_39 ?_
        obtain ⟨v35, ev35, hf⟩ := zlt_some hf
        refine lz_nm ev35 ?_
        refine lv_istore (lv' := [(5, .int (zI v35)), (4, .int (zI v32)), (0, .ref (ad 19)), (1, .int (zI x1)), (2, .int (zI x2)), (3, .int (zI x3))]) hx hb dX7_crosses_40 hl (by decide) rfl (fun ls hl => ?_)
        refine lv_aload_n hx hb dX7_crosses_42 rfl (lv_at hl 2 rfl) ?_
        refine zget hx hb inlX7 rfl 6 rfl zk_t4_119 hts hown hK hH hk_mo h_mo rfl dX7_crosses_43 ?_
        refine lv_iload hx hb dX7_crosses_46 (lv_at hl 1 rfl) ?_
        obtain ⟨k36, hf⟩ := zck_some hf
        refine ziald hx hb hK hH hk_mo_cornerY 0 h_mo_cornerY rfl k36 rfl dX7_crosses_48 ?_
        obtain ⟨v37, ev37, hf⟩ := zlt_some hf
        refine lz_nm ev37 ?_
        refine lv_istore (lv' := [(6, .int (zI v37)), (5, .int (zI v35)), (4, .int (zI v32)), (0, .ref (ad 19)), (1, .int (zI x1)), (2, .int (zI x2)), (3, .int (zI x3))]) hx hb dX7_crosses_49 hl (by decide) rfl (fun ls hl => ?_)
        refine lv_aload_n hx hb dX7_crosses_51 rfl (lv_at hl 3 rfl) ?_
        refine zget hx hb inlX7 rfl 6 rfl zk_t4_119 hts hown hK hH hk_mo h_mo rfl dX7_crosses_52 ?_
        refine lv_iload hx hb dX7_crosses_55 (lv_at hl 1 rfl) ?_
        obtain ⟨k38, hf⟩ := zck_some hf
        refine ziald hx hb hK hH hk_mo_cornerY 0 h_mo_cornerY rfl k38 rfl dX7_crosses_57 ?_
        obtain ⟨v39, ev39, hf⟩ := zlt_some hf
        refine lz_nm ev39 ?_
        refine lv_istore (lv' := [(7, .int (zI v39)), (6, .int (zI v37)), (5, .int (zI v35)), (4, .int (zI v32)), (0, .ref (ad 19)), (1, .int (zI x1)), (2, .int (zI x2)), (3, .int (zI x3))]) hx hb dX7_crosses_58 hl (by decide) rfl (fun ls hl => ?_)
        refine lv_iload hx hb dX7_crosses_60 (lv_at hl 1 rfl) ?_
        refine lv_iload hx hb dX7_crosses_62 (lv_at hl 0 rfl) ?_
        obtain ⟨k40, hf⟩ := zck_some hf
        refine lz_icmp_ge (tgt := 87) hx hb k40 dX7_crosses_64 (by decide) (fun c41 => ?_) (fun c41 => ?_)
        · replace hf := (if_pos c41).symm.trans hf
          refine lv_iload hx hb dX7_crosses_87 (lv_at hl 0 rfl) ?_
          refine lv_iload_n hx hb dX7_crosses_89 rfl (lv_at hl 6 rfl) ?_
          obtain ⟨k42, hf⟩ := zck_some hf
          refine lz_icmp_gt (tgt := 103) hx hb k42 dX7_crosses_90 (by decide) (fun c43 => ?_) (fun c43 => ?_)
          · replace hf := (if_pos c43).symm.trans hf
            exact JL7_103 mo_crossing mo_crossings x3 v32 v35 v37 v39 _ _ _ hH h_mo h_mo_corners h_mo_cornerX h_mo_cornerY h_mo_crossing hbg _ (lv_sub hl [4, 5, 6, 7, 3, 2, 1, 0] rfl) hf
          · replace hf := (if_neg c43).symm.trans hf
            refine lv_iload_n hx hb dX7_crosses_93 rfl (lv_at hl 6 rfl) ?_
            refine lv_iload hx hb dX7_crosses_94 (lv_at hl 1 rfl) ?_
            obtain ⟨k44, hf⟩ := zck_some hf
            refine lz_icmp_ge (tgt := 103) hx hb k44 dX7_crosses_96 (by decide) (fun c45 => ?_) (fun c45 => ?_)
            · replace hf := (if_pos c45).symm.trans hf
              exact JL7_103 mo_crossing mo_crossings x3 v32 v35 v37 v39 _ _ _ hH h_mo h_mo_corners h_mo_cornerX h_mo_cornerY h_mo_crossing hbg _ (lv_sub hl [4, 5, 6, 7, 3, 2, 1, 0] rfl) hf
            · replace hf := (if_neg c45).symm.trans hf
              refine lv_iconst (v := zI 1) hx hb dX7_crosses_99 (by decide +kernel) ?_
              refine lv_goto (tgt := 104) hx hb dX7_crosses_100 (by decide) ?_
              exact JL7_104 mo_crossing mo_crossings x3 v32 v35 v37 v39 1 _ _ _ hH h_mo h_mo_corners h_mo_cornerX h_mo_cornerY h_mo_crossing hbg _ (lv_sub hl [4, 5, 6, 7, 3, 2, 1, 0] rfl) hf
        · replace hf := (if_neg c41).symm.trans hf
          refine lv_iload hx hb dX7_crosses_67 (lv_at hl 1 rfl) ?_
          refine lv_iload_n hx hb dX7_crosses_69 rfl (lv_at hl 6 rfl) ?_
          obtain ⟨k46, hf⟩ := zck_some hf
          refine lz_icmp_gt (tgt := 83) hx hb k46 dX7_crosses_70 (by decide) (fun c47 => ?_) (fun c47 => ?_)
          · replace hf := (if_pos c47).symm.trans hf
            exact JL7_83 mo_crossing mo_crossings x3 v32 v35 v37 v39 _ _ _ hH h_mo h_mo_corners h_mo_cornerX h_mo_cornerY h_mo_crossing hbg _ (lv_sub hl [4, 5, 6, 7, 3, 2, 1, 0] rfl) hf
          · replace hf := (if_neg c47).symm.trans hf
            refine lv_iload_n hx hb dX7_crosses_73 rfl (lv_at hl 6 rfl) ?_
            refine lv_iload hx hb dX7_crosses_74 (lv_at hl 0 rfl) ?_
            obtain ⟨k48, hf⟩ := zck_some hf
            refine lz_icmp_ge (tgt := 83) hx hb k48 dX7_crosses_76 (by decide) (fun c49 => ?_) (fun c49 => ?_)
            · replace hf := (if_pos c49).symm.trans hf
              exact JL7_83 mo_crossing mo_crossings x3 v32 v35 v37 v39 _ _ _ hH h_mo h_mo_corners h_mo_cornerX h_mo_cornerY h_mo_crossing hbg _ (lv_sub hl [4, 5, 6, 7, 3, 2, 1, 0] rfl) hf
            · replace hf := (if_neg c49).symm.trans hf
              refine lv_iconst (v := zI 1) hx hb dX7_crosses_79 (by decide +kernel) ?_
              refine lv_goto (tgt := 104) hx hb dX7_crosses_80 (by decide) ?_
              exact JL7_104 mo_crossing mo_crossings x3 v32 v35 v37 v39 1 _ _ _ hH h_mo h_mo_corners h_mo_cornerX h_mo_cornerY h_mo_crossing hbg _ (lv_sub hl [4, 5, 6, 7, 3, 2, 1, 0] rfl) hf
  unfold f_X7_crosses at hf
  refine lv_aload_n hx hb dX7_crosses_0 rfl (lv_at hl 0 rfl) ?_
  refine lv_iconst (v := zI 0) hx hb dX7_crosses_1 (by decide +kernel) ?_
  refine zput hx hb inlX7 tyX7 tyX7_ok nmX7 rfl 17 rfl zk_t4_130 rfl hts hown hK hH hk_mo h_mo rfl rfl rfl dX7_crosses_2 (fun σ50 Hσ50 lσ50 h_mo hn hH => ?_)
  have h_mo : σ50 19 = oC_mo ad mo_fields mo_bound mo_points 0 mo_isKnown mo_commands mo_needleX mo_needleY mo_hasFile mo_format mo_length mo_heads mo_late mo_ran mo_program mo_thrown mo_rowY mo_stitches := h_mo
  have h_mo_corners := (hn 23 (by decide)).trans h_mo_corners
  have h_mo_cornerX := (hn 24 (by decide)).trans h_mo_cornerX
  have h_mo_cornerY := (hn 25 (by decide)).trans h_mo_cornerY
  have h_mo_crossing := (hn 33 (by decide)).trans h_mo_crossing
  have hbg : ∀ i : Nat, i ≠ 19 → i ≠ 33 → σ50 i = σ0 i := fun i a0 a1 => (hn i a0).trans (hbg i a0 a1)
  refine lv_iconst (v := zI 0) hx hb dX7_crosses_5 (by decide +kernel) ?_
  refine lv_istore_n (lv' := [(3, .int (zI 0)), (0, .ref (ad 19)), (1, .int (zI p1)), (2, .int (zI p2))]) hx hb dX7_crosses_6 rfl hl (by decide) rfl (fun ls hl => ?_)
  obtain ⟨w52, w53, w54, k51, hf⟩ := zb3_some hf
  refine L7 p1 p2 zFU 0 mo_crossing 0 w52 w53 w54 k51 _ _ _ hH h_mo h_mo_corners h_mo_cornerX h_mo_cornerY h_mo_crossing hbg _ (lv_sub hl [1, 2, 3, 0] rfl) (fun σ55 Hσ55 lσ55 hH h_mo h_mo_corners h_mo_cornerX h_mo_cornerY h_mo_crossing hbg ls hl => ?_)
  cases hf
  exact zretv hx hb hr hlocks hQ hH ⟨h_mo, h_mo_crossing, hbg⟩ dX7_crosses_221
abbrev rmX7_spans : Room := { frames := 1, cells := 0, slots := 0, locals := 23 }
theorem hd_X7_spans : yX7_spans.cls = RX7 ∧ yX7_spans.cls ≠ "java/lang/invoke/MethodHandle" ∧ yX7_spans.cls ≠ "java/lang/invoke/VarHandle" ∧ (parseMethodDescriptor yX7_spans.desc).map (fun d => d.parameters.length) = some 2 := by decide +kernel
set_option maxHeartbeats 4000000 in
set_option maxRecDepth 100000 in
theorem c_X7_spans {l : Launch} {D : va_G} {cI cZ cF cL cD : ClassId} {ad : Nat → Nat} {N : Nat} (hI : ∀ i j, i < N → j < N → ad i = ad j → i = j) (hN : 46 ≤ N) {σ0 : Nat → va_E} {sz : Nat} {mo_fields : Int} {mo_longest : Int → Int} {mo_shift : Int → Int} {mo_pull : Int → Int} {mo_bound : Int} {mo_pointX : Int → Int} {mo_pointY : Int → Int} {mo_points : Int} {mo_crossing : Int → Int} {mo_crossings : Int} {mo_isKnown : Int} {mo_commands : Int} {mo_needleX : Int} {mo_needleY : Int} {mo_hasFile : Int} {mo_format : Int} {mo_length : Int} {mo_heads : Int} {mo_late : Int} {mo_ran : Int} {mo_program : Int} {mo_thrown : Int} {mo_rowY : Int} {mo_stitches : Int} {p1 : Int} {p2 : Int} {R_mo_pointX : Int → Int} {R_mo_pointY : Int → Int} {R_mo_points : Int} (h_mo : σ0 19 = oC_mo ad mo_fields mo_bound mo_points mo_crossings mo_isKnown mo_commands mo_needleX mo_needleY mo_hasFile mo_format mo_length mo_heads mo_late mo_ran mo_program mo_thrown mo_rowY mo_stitches) (h_mo_longest : σ0 27 = .inl (cI, 8, .inl (zA mo_longest))) (h_mo_shift : σ0 28 = .inl (cI, 8, .inl (zA mo_shift))) (h_mo_pull : σ0 29 = .inl (cI, 8, .inl (zA mo_pull))) (h_mo_pointX : σ0 31 = .inl (cI, 4096, .inl (zA mo_pointX))) (h_mo_pointY : σ0 32 = .inl (cI, 4096, .inl (zA mo_pointY))) (h_mo_crossing : σ0 33 = .inl (cI, 8, .inl (zA mo_crossing))) (hf : f_X7_spans mo_longest mo_shift mo_pull mo_pointX mo_pointY mo_points mo_crossing mo_crossings mo_rowY p1 p2 = some (R_mo_pointX, R_mo_pointY, R_mo_points)) :
    Met l yX7_spans (Cond.code yX7_spans cX7_spans 11 none :: wsL_law) rmX7_spans (zPre D ad N (zT cI cZ cF cL cD) σ0 sz [.ref (ad 19), .int (zI p1), .int (zI p2)]) (zQv D ad N sz (fun σ' => σ' 19 = oC_mo ad mo_fields mo_bound R_mo_points mo_crossings mo_isKnown mo_commands mo_needleX mo_needleY mo_hasFile mo_format mo_length mo_heads mo_late mo_ran mo_program mo_thrown mo_rowY mo_stitches ∧ σ' 31 = .inl (cI, 4096, .inl (zA R_mo_pointX)) ∧ σ' 32 = .inl (cI, 4096, .inl (zA R_mo_pointY)) ∧ ∀ i : Nat, i ≠ 19 → i ≠ 31 → i ≠ 32 → σ' i = σ0 i)) 0 0 (zFr ad N sz) := by
  refine zMet hI (plainFor_of_name (by decide)) (Nat.le_of_ble_eq_true rfl) ⟨rfl, rfl⟩ ?_
  intro p e s m args below meth c Q hx hb hr hlocks hml hown hts hK hsz hQ hH hA ls hl
  subst hsz
  have hk_mo : 19 < N := by omega
  have hk_mo_longest : 27 < N := by omega
  have hk_mo_shift : 28 < N := by omega
  have hk_mo_pull : 29 < N := by omega
  have hk_mo_pointX : 31 < N := by omega
  have hk_mo_pointY : 32 < N := by omega
  have hk_mo_crossing : 33 < N := by omega
  have hl : lv_has ls 11 [(0, .ref (ad 19)), (1, .int (zI p1)), (2, .int (zI p2))] := hl
  have hbg : ∀ i : Nat, i ≠ 19 → i ≠ 31 → i ≠ 32 → σ0 i = σ0 i := fun _ _ _ _ => rfl
  have L2 : ∀ (x1 : Int) (x2 : Int)  (n : Nat) (x3 : Int) (mo_pointX : Int → Int) (mo_pointY : Int → Int) (mo_points : Int) (x3' : Int) (mo_pointX' : Int → Int) (mo_pointY' : Int → Int) (mo_points' : Int), zlp (fun z => f_X7_spans_L2 mo_longest mo_shift mo_pull mo_crossing mo_crossings mo_rowY x1 x2 z.1 z.2.1 z.2.2.1 z.2.2.2) n (x3, mo_pointX, mo_pointY, mo_points) = some (x3', mo_pointX', mo_pointY', mo_points') → ∀ (σ : Nat → va_E) (H : Heap) (locs : List Loc) (hH : zH D ad N (zFr ad N s.heap.size) s.heap σ H locs) (h_mo : σ 19 = oC_mo ad mo_fields mo_bound mo_points mo_crossings mo_isKnown mo_commands mo_needleX mo_needleY mo_hasFile mo_format mo_length mo_heads mo_late mo_ran mo_program mo_thrown mo_rowY mo_stitches) (h_mo_longest : σ 27 = .inl (cI, 8, .inl (zA mo_longest))) (h_mo_shift : σ 28 = .inl (cI, 8, .inl (zA mo_shift))) (h_mo_pull : σ 29 = .inl (cI, 8, .inl (zA mo_pull))) (h_mo_pointX : σ 31 = .inl (cI, 4096, .inl (zA mo_pointX))) (h_mo_pointY : σ 32 = .inl (cI, 4096, .inl (zA mo_pointY))) (h_mo_crossing : σ 33 = .inl (cI, 8, .inl (zA mo_crossing))) (hbg : ∀ i : Nat, i ≠ 19 → i ≠ 31 → i ≠ 32 → σ i = σ0 i) (ls : Array Slot) (hl : lv_has ls 11 [(0, .ref (ad 19)), (1, .int (zI x1)), (2, .int (zI x2)), (3, .int (zI x3))]), (∀ (σ : Nat → va_E) (H : Heap) (locs : List Loc) (hH : zH D ad N (zFr ad N s.heap.size) s.heap σ H locs) (h_mo : σ 19 = oC_mo ad mo_fields mo_bound (mo_points') mo_crossings mo_isKnown mo_commands mo_needleX mo_needleY mo_hasFile mo_format mo_length mo_heads mo_late mo_ran mo_program mo_thrown mo_rowY mo_stitches) (h_mo_longest : σ 27 = .inl (cI, 8, .inl (zA mo_longest))) (h_mo_shift : σ 28 = .inl (cI, 8, .inl (zA mo_shift))) (h_mo_pull : σ 29 = .inl (cI, 8, .inl (zA mo_pull))) (h_mo_pointX : σ 31 = .inl (cI, 4096, .inl (zA (mo_pointX')))) (h_mo_pointY : σ 32 = .inl (cI, 4096, .inl (zA (mo_pointY')))) (h_mo_crossing : σ 33 = .inl (cI, 8, .inl (zA mo_crossing))) (hbg : ∀ i : Nat, i ≠ 19 → i ≠ 31 → i ≠ 32 → σ i = σ0 i) (ls : Array Slot) (hl : lv_has ls 11 []), W p l e rmX7_spans s m args below meth c H locs 0 0 Q (F0 m 184 ls [])) → W p l e rmX7_spans s m args below meth c H locs 0 0 Q (F0 m 2 ls []) := by
    intro x1 x2 n
    induction n with
    | zero => intro x3 mo_pointX mo_pointY mo_points x3' mo_pointX' mo_pointY' mo_points' hz; exact (zlp_0 hz).elim
    | succ n ih =>
      intro x3 mo_pointX mo_pointY mo_points x3' mo_pointX' mo_pointY' mo_points' hz σ H locs hH h_mo h_mo_longest h_mo_shift h_mo_pull h_mo_pointX h_mo_pointY h_mo_crossing hbg ls hl kx
      obtain ⟨nx, hf, hnx⟩ := zlp_some hz
      have hf : f_X7_spans_L2 mo_longest mo_shift mo_pull mo_crossing mo_crossings mo_rowY x1 x2 x3 mo_pointX mo_pointY mo_points = some nx := hf
      have L69 : ∀ (x1 : Int) (x2 : Int) (x3 : Int) (x5 : Int) (x6 : Int)  (n : Nat) (x7 : Int) (mo_pointX : Int → Int) (mo_pointY : Int → Int) (mo_points : Int) (x7' : Int) (mo_pointX' : Int → Int) (mo_pointY' : Int → Int) (mo_points' : Int), zlp (fun z => f_X7_spans_L69 mo_longest mo_shift mo_pull mo_crossing mo_crossings mo_rowY x1 x2 x3 x5 x6 z.1 z.2.1 z.2.2.1 z.2.2.2) n (x7, mo_pointX, mo_pointY, mo_points) = some (x7', mo_pointX', mo_pointY', mo_points') → ∀ (σ : Nat → va_E) (H : Heap) (locs : List Loc) (hH : zH D ad N (zFr ad N s.heap.size) s.heap σ H locs) (h_mo : σ 19 = oC_mo ad mo_fields mo_bound mo_points mo_crossings mo_isKnown mo_commands mo_needleX mo_needleY mo_hasFile mo_format mo_length mo_heads mo_late mo_ran mo_program mo_thrown mo_rowY mo_stitches) (h_mo_longest : σ 27 = .inl (cI, 8, .inl (zA mo_longest))) (h_mo_shift : σ 28 = .inl (cI, 8, .inl (zA mo_shift))) (h_mo_pull : σ 29 = .inl (cI, 8, .inl (zA mo_pull))) (h_mo_pointX : σ 31 = .inl (cI, 4096, .inl (zA mo_pointX))) (h_mo_pointY : σ 32 = .inl (cI, 4096, .inl (zA mo_pointY))) (h_mo_crossing : σ 33 = .inl (cI, 8, .inl (zA mo_crossing))) (hbg : ∀ i : Nat, i ≠ 19 → i ≠ 31 → i ≠ 32 → σ i = σ0 i) (ls : Array Slot) (hl : lv_has ls 11 [(0, .ref (ad 19)), (1, .int (zI x1)), (2, .int (zI x2)), (3, .int (zI x3)), (5, .int (zI x5)), (6, .int (zI x6)), (7, .int (zI x7))]), (∀ (σ : Nat → va_E) (H : Heap) (locs : List Loc) (hH : zH D ad N (zFr ad N s.heap.size) s.heap σ H locs) (h_mo : σ 19 = oC_mo ad mo_fields mo_bound (mo_points') mo_crossings mo_isKnown mo_commands mo_needleX mo_needleY mo_hasFile mo_format mo_length mo_heads mo_late mo_ran mo_program mo_thrown mo_rowY mo_stitches) (h_mo_longest : σ 27 = .inl (cI, 8, .inl (zA mo_longest))) (h_mo_shift : σ 28 = .inl (cI, 8, .inl (zA mo_shift))) (h_mo_pull : σ 29 = .inl (cI, 8, .inl (zA mo_pull))) (h_mo_pointX : σ 31 = .inl (cI, 4096, .inl (zA (mo_pointX')))) (h_mo_pointY : σ 32 = .inl (cI, 4096, .inl (zA (mo_pointY')))) (h_mo_crossing : σ 33 = .inl (cI, 8, .inl (zA mo_crossing))) (hbg : ∀ i : Nat, i ≠ 19 → i ≠ 31 → i ≠ 32 → σ i = σ0 i) (ls : Array Slot) (hl : lv_has ls 11 [(0, .ref (ad 19)), (1, .int (zI x1)), (2, .int (zI x2)), (3, .int (zI x3))]), W p l e rmX7_spans s m args below meth c H locs 0 0 Q (F0 m 178 ls [])) → W p l e rmX7_spans s m args below meth c H locs 0 0 Q (F0 m 69 ls []) := by
        intro x1 x2 x3 x5 x6 n
        induction n with
        | zero => intro x7 mo_pointX mo_pointY mo_points x7' mo_pointX' mo_pointY' mo_points' hz; exact (zlp_0 hz).elim
        | succ n ih =>
          intro x7 mo_pointX mo_pointY mo_points x7' mo_pointX' mo_pointY' mo_points' hz σ H locs hH h_mo h_mo_longest h_mo_shift h_mo_pull h_mo_pointX h_mo_pointY h_mo_crossing hbg ls hl kx
          obtain ⟨nx, hf, hnx⟩ := zlp_some hz
          have hf : f_X7_spans_L69 mo_longest mo_shift mo_pull mo_crossing mo_crossings mo_rowY x1 x2 x3 x5 x6 x7 mo_pointX mo_pointY mo_points = some nx := hf
          have JL69_155 : ∀ (mo_pointX : Int → Int) (mo_pointY : Int → Int) (mo_points : Int) (x7 : Int) (x8 : Int) (s0 : Int) (σ : Nat → va_E) (H : Heap) (locs : List Loc) (hH : zH D ad N (zFr ad N s.heap.size) s.heap σ H locs) (h_mo : σ 19 = oC_mo ad mo_fields mo_bound mo_points mo_crossings mo_isKnown mo_commands mo_needleX mo_needleY mo_hasFile mo_format mo_length mo_heads mo_late mo_ran mo_program mo_thrown mo_rowY mo_stitches) (h_mo_longest : σ 27 = .inl (cI, 8, .inl (zA mo_longest))) (h_mo_shift : σ 28 = .inl (cI, 8, .inl (zA mo_shift))) (h_mo_pull : σ 29 = .inl (cI, 8, .inl (zA mo_pull))) (h_mo_pointX : σ 31 = .inl (cI, 4096, .inl (zA mo_pointX))) (h_mo_pointY : σ 32 = .inl (cI, 4096, .inl (zA mo_pointY))) (h_mo_crossing : σ 33 = .inl (cI, 8, .inl (zA mo_crossing))) (hbg : ∀ i : Nat, i ≠ 19 → i ≠ 31 → i ≠ 32 → σ i = σ0 i) (ls : Array Slot) (hl : lv_has ls 11 [(0, .ref (ad 19)), (1, .int (zI x1)), (2, .int (zI x2)), (3, .int (zI x3)), (5, .int (zI x5)), (6, .int (zI x6)), (7, .int (zI x7)), (8, .int (zI x8))]), f_X7_spans_L69_155 mo_longest mo_shift mo_pull mo_pointX mo_pointY mo_points mo_crossing mo_crossings mo_rowY x1 x2 x3 x5 x6 x7 x8 s0 = some nx → W p l e rmX7_spans s m args below meth c H locs 0 0 Q (F0 m 155 ls [.int (zI s0)]) := by
            intro mo_pointX mo_pointY mo_points x7 x8 s0 σ H locs hH h_mo h_mo_longest h_mo_shift h_mo_pull h_mo_pointX h_mo_pointY h_mo_crossing hbg ls hl hf
            unfold f_X7_spans_L69_155 at hf
            refine lv_istore (lv' := [(10, .int (zI s0)), (0, .ref (ad 19)), (1, .int (zI x1)), (2, .int (zI x2)), (3, .int (zI x3)), (5, .int (zI x5)), (6, .int (zI x6)), (7, .int (zI x7)), (8, .int (zI x8))]) hx hb dX7_spans_155 hl (by decide) rfl (fun ls hl => ?_)
            refine lv_iload hx hb dX7_spans_157 (lv_at hl 0 rfl) ?_
            obtain ⟨k1, hf⟩ := zck_some hf
            refine lz_if_eq (tgt := 172) hx hb k1 dX7_spans_159 (by decide) (fun c2 => ?_) (fun c2 => ?_)
            · replace hf := (if_pos c2).symm.trans hf
              refine lz_iinc (lv' := [(7, .int (zI (x7 + 1))), (10, .int (zI s0)), (0, .ref (ad 19)), (1, .int (zI x1)), (2, .int (zI x2)), (3, .int (zI x3)), (5, .int (zI x5)), (6, .int (zI x6)), (8, .int (zI x8))]) hx hb dX7_spans_172 hl (j := 7) rfl (by decide) rfl (fun ls hl => ?_)
              refine lv_goto (tgt := 69) hx hb dX7_spans_175 (by decide) ?_
              cases hf
              exact ih (x7 + 1) mo_pointX mo_pointY mo_points _ _ _ _ hnx _ _ _ hH h_mo h_mo_longest h_mo_shift h_mo_pull h_mo_pointX h_mo_pointY h_mo_crossing hbg _ (lv_sub hl [2, 3, 4, 5, 6, 7, 0] rfl) kx
            · replace hf := (if_neg c2).symm.trans hf
              refine lv_aload_n hx hb dX7_spans_162 rfl (lv_at hl 1 rfl) ?_
              refine lv_iload hx hb dX7_spans_163 (lv_at hl 8 rfl) ?_
              refine lv_aload_n hx hb dX7_spans_165 rfl (lv_at hl 1 rfl) ?_
              refine zget hx hb inlX7 rfl 40 rfl zk_t4_153 hts hown hK hH hk_mo h_mo rfl dX7_spans_166 ?_
              obtain ⟨a3, a4, u5, k6, hf⟩ := zb3_some hf
              refine zcVv (C := RX7) (As := [.int (zI x8), .int (zI mo_rowY)]) (rest := []) hx hb hml hown hts hl.1 hK hH hA (c_X7_point hI hN  h_mo h_mo_pointX h_mo_pointY k6) zk_t5_68 zk_t5_70 zk_s3_4 zk_t1_6 zk_t5_71 hd_X7_point rfl ⟨rfl, rfl, Nat.le_of_ble_eq_true rfl, Nat.le_of_ble_eq_true rfl⟩ ⟨Nat.zero_le _, Nat.zero_le _⟩ hk_mo h_mo rfl rfl rfl (Nat.le_of_ble_eq_true rfl) dX7_spans_169 (fun σ7 Hσ7 lσ7 hp hH => ?_)
              obtain ⟨h_mo, h_mo_pointX, h_mo_pointY, hn⟩ := hp
              have h_mo_longest := (hn 27 (by decide) (by decide) (by decide)).trans h_mo_longest
              have h_mo_shift := (hn 28 (by decide) (by decide) (by decide)).trans h_mo_shift
              have h_mo_pull := (hn 29 (by decide) (by decide) (by decide)).trans h_mo_pull
              have h_mo_crossing := (hn 33 (by decide) (by decide) (by decide)).trans h_mo_crossing
              have hbg : ∀ i : Nat, i ≠ 19 → i ≠ 31 → i ≠ 32 → σ7 i = σ0 i := fun i a0 a1 a2 => (hn i a0 a1 a2).trans (hbg i a0 a1 a2)
              refine lz_iinc (lv' := [(7, .int (zI (x7 + 1))), (10, .int (zI s0)), (0, .ref (ad 19)), (1, .int (zI x1)), (2, .int (zI x2)), (3, .int (zI x3)), (5, .int (zI x5)), (6, .int (zI x6)), (8, .int (zI x8))]) hx hb dX7_spans_172 hl (j := 7) rfl (by decide) rfl (fun ls hl => ?_)
              refine lv_goto (tgt := 69) hx hb dX7_spans_175 (by decide) ?_
              cases hf
              exact ih (x7 + 1) a3 a4 u5 _ _ _ _ hnx _ _ _ hH h_mo h_mo_longest h_mo_shift h_mo_pull h_mo_pointX h_mo_pointY h_mo_crossing hbg _ (lv_sub hl [2, 3, 4, 5, 6, 7, 0] rfl) kx
          have JL69_150 : ∀ (mo_pointX : Int → Int) (mo_pointY : Int → Int) (mo_points : Int) (x7 : Int) (x8 : Int) (σ : Nat → va_E) (H : Heap) (locs : List Loc) (hH : zH D ad N (zFr ad N s.heap.size) s.heap σ H locs) (h_mo : σ 19 = oC_mo ad mo_fields mo_bound mo_points mo_crossings mo_isKnown mo_commands mo_needleX mo_needleY mo_hasFile mo_format mo_length mo_heads mo_late mo_ran mo_program mo_thrown mo_rowY mo_stitches) (h_mo_longest : σ 27 = .inl (cI, 8, .inl (zA mo_longest))) (h_mo_shift : σ 28 = .inl (cI, 8, .inl (zA mo_shift))) (h_mo_pull : σ 29 = .inl (cI, 8, .inl (zA mo_pull))) (h_mo_pointX : σ 31 = .inl (cI, 4096, .inl (zA mo_pointX))) (h_mo_pointY : σ 32 = .inl (cI, 4096, .inl (zA mo_pointY))) (h_mo_crossing : σ 33 = .inl (cI, 8, .inl (zA mo_crossing))) (hbg : ∀ i : Nat, i ≠ 19 → i ≠ 31 → i ≠ 32 → σ i = σ0 i) (ls : Array Slot) (hl : lv_has ls 11 [(0, .ref (ad 19)), (1, .int (zI x1)), (2, .int (zI x2)), (3, .int (zI x3)), (5, .int (zI x5)), (6, .int (zI x6)), (7, .int (zI x7)), (8, .int (zI x8))]), f_X7_spans_L69_150 mo_longest mo_shift mo_pull mo_pointX mo_pointY mo_points mo_crossing mo_crossings mo_rowY x1 x2 x3 x5 x6 x7 x8 = some nx → W p l e rmX7_spans s m args below meth c H locs 0 0 Q (F0 m 150 ls []) := by
            intro mo_pointX mo_pointY mo_points x7 x8 σ H locs hH h_mo h_mo_longest h_mo_shift h_mo_pull h_mo_pointX h_mo_pointY h_mo_crossing hbg ls hl hf
            unfold f_X7_spans_L69_150 at hf
            refine lv_iconst (v := zI 1) hx hb dX7_spans_150 (by decide +kernel) ?_
            refine lv_goto (tgt := 155) hx hb dX7_spans_151 (by decide) ?_
            exact JL69_155 mo_pointX mo_pointY mo_points x7 x8 1 _ _ _ hH h_mo h_mo_longest h_mo_shift h_mo_pull h_mo_pointX h_mo_pointY h_mo_crossing hbg _ (lv_sub hl [0, 1, 2, 3, 4, 5, 6, 7] rfl) hf
          have JL69_98 : ∀ (mo_pointX : Int → Int) (mo_pointY : Int → Int) (mo_points : Int) (x7 : Int) (s0 : Int) (σ : Nat → va_E) (H : Heap) (locs : List Loc) (hH : zH D ad N (zFr ad N s.heap.size) s.heap σ H locs) (h_mo : σ 19 = oC_mo ad mo_fields mo_bound mo_points mo_crossings mo_isKnown mo_commands mo_needleX mo_needleY mo_hasFile mo_format mo_length mo_heads mo_late mo_ran mo_program mo_thrown mo_rowY mo_stitches) (h_mo_longest : σ 27 = .inl (cI, 8, .inl (zA mo_longest))) (h_mo_shift : σ 28 = .inl (cI, 8, .inl (zA mo_shift))) (h_mo_pull : σ 29 = .inl (cI, 8, .inl (zA mo_pull))) (h_mo_pointX : σ 31 = .inl (cI, 4096, .inl (zA mo_pointX))) (h_mo_pointY : σ 32 = .inl (cI, 4096, .inl (zA mo_pointY))) (h_mo_crossing : σ 33 = .inl (cI, 8, .inl (zA mo_crossing))) (hbg : ∀ i : Nat, i ≠ 19 → i ≠ 31 → i ≠ 32 → σ i = σ0 i) (ls : Array Slot) (hl : lv_has ls 11 [(0, .ref (ad 19)), (1, .int (zI x1)), (2, .int (zI x2)), (3, .int (zI x3)), (5, .int (zI x5)), (6, .int (zI x6)), (7, .int (zI x7))]), f_X7_spans_L69_98 mo_longest mo_shift mo_pull mo_pointX mo_pointY mo_points mo_crossing mo_crossings mo_rowY x1 x2 x3 x5 x6 x7 s0 = some nx → W p l e rmX7_spans s m args below meth c H locs 0 0 Q (F0 m 98 ls [.int (zI s0)]) := by
            intro mo_pointX mo_pointY mo_points x7 s0 σ H locs hH h_mo h_mo_longest h_mo_shift h_mo_pull h_mo_pointX h_mo_pointY h_mo_crossing hbg ls hl hf
            unfold f_X7_spans_L69_98 at hf
            refine lv_istore (lv' := [(8, .int (zI s0)), (0, .ref (ad 19)), (1, .int (zI x1)), (2, .int (zI x2)), (3, .int (zI x3)), (5, .int (zI x5)), (6, .int (zI x6)), (7, .int (zI x7))]) hx hb dX7_spans_98 hl (by decide) rfl (fun ls hl => ?_)
            refine lv_iload hx hb dX7_spans_100 (lv_at hl 0 rfl) ?_
            refine lv_iload_n hx hb dX7_spans_102 rfl (lv_at hl 3 rfl) ?_
            refine lv_aload_n hx hb dX7_spans_103 rfl (lv_at hl 1 rfl) ?_
            refine zget hx hb inlX7 rfl 9 rfl zk_t4_122 hts hown hK hH hk_mo h_mo rfl dX7_spans_104 ?_
            refine lv_iload_n hx hb dX7_spans_107 rfl (lv_at hl 2 rfl) ?_
            obtain ⟨k8, hf⟩ := zck_some hf
            refine ziald hx hb hK hH hk_mo_shift 0 h_mo_shift rfl k8 rfl dX7_spans_108 ?_
            refine lz_imul hx hb dX7_spans_109 ?_
            refine lz_isub hx hb dX7_spans_110 ?_
            obtain ⟨v9, ev9, hf⟩ := zlt_some hf
            refine lz_nm ev9 ?_
            refine lv_istore (lv' := [(9, .int (zI v9)), (8, .int (zI s0)), (0, .ref (ad 19)), (1, .int (zI x1)), (2, .int (zI x2)), (3, .int (zI x3)), (5, .int (zI x5)), (6, .int (zI x6)), (7, .int (zI x7))]) hx hb dX7_spans_111 hl (by decide) rfl (fun ls hl => ?_)
            refine lv_iload hx hb dX7_spans_113 (lv_at hl 1 rfl) ?_
            refine lv_iload hx hb dX7_spans_115 (lv_at hl 6 rfl) ?_
            obtain ⟨k10, hf⟩ := zck_some hf
            refine lz_icmp_eq (tgt := 150) hx hb k10 dX7_spans_117 (by decide) (fun c11 => ?_) (fun c11 => ?_)
            · replace hf := (if_pos c11).symm.trans hf
              exact JL69_150 mo_pointX mo_pointY mo_points x7 s0 _ _ _ hH h_mo h_mo_longest h_mo_shift h_mo_pull h_mo_pointX h_mo_pointY h_mo_crossing hbg _ (lv_sub hl [2, 3, 4, 5, 6, 7, 8, 1] rfl) hf
            · replace hf := (if_neg c11).symm.trans hf
              refine lv_iload hx hb dX7_spans_120 (lv_at hl 1 rfl) ?_
              refine lv_iload hx hb dX7_spans_122 (lv_at hl 7 rfl) ?_
              obtain ⟨k12, hf⟩ := zck_some hf
              refine lz_icmp_eq (tgt := 150) hx hb k12 dX7_spans_124 (by decide) (fun c13 => ?_) (fun c13 => ?_)
              · replace hf := (if_pos c13).symm.trans hf
                exact JL69_150 mo_pointX mo_pointY mo_points x7 s0 _ _ _ hH h_mo h_mo_longest h_mo_shift h_mo_pull h_mo_pointX h_mo_pointY h_mo_crossing hbg _ (lv_sub hl [2, 3, 4, 5, 6, 7, 8, 1] rfl) hf
              · replace hf := (if_neg c13).symm.trans hf
                refine lv_iload hx hb dX7_spans_127 (lv_at hl 0 rfl) ?_
                refine lv_aload_n hx hb dX7_spans_129 rfl (lv_at hl 2 rfl) ?_
                refine zget hx hb inlX7 rfl 8 rfl zk_t4_121 hts hown hK hH hk_mo h_mo rfl dX7_spans_130 ?_
                refine lv_iload_n hx hb dX7_spans_133 rfl (lv_at hl 3 rfl) ?_
                obtain ⟨k14, hf⟩ := zck_some hf
                refine ziald hx hb hK hH hk_mo_longest 0 h_mo_longest rfl k14 rfl dX7_spans_134 ?_
                obtain ⟨r15, k16, hf⟩ := zb1_some hf
                refine zcSi (As := [.int (zI v9), .int (zI (mo_longest x1))]) (rest := []) hx hb hml hown hts hl.1 hK hH hA (c_X7_down hI hN   k16) zk_t5_65 zk_t5_66 zk_t1_6 zk_t5_67 hd_X7_down rfl ⟨rfl, rfl, Nat.le_of_ble_eq_true rfl, Nat.le_of_ble_eq_true rfl⟩ ⟨Nat.zero_le _, Nat.zero_le _⟩ rfl (Nat.le_of_ble_eq_true rfl) dX7_spans_135 (fun q18 σ17 Hσ17 lσ17 hp hH => ?_)
                obtain ⟨hr1, hs1⟩ := hp; subst hr1; rw [hs1] at hH
                refine lv_aload_n hx hb dX7_spans_138 rfl (lv_at hl 2 rfl) ?_
                refine zget hx hb inlX7 rfl 8 rfl zk_t4_121 hts hown hK hH hk_mo h_mo rfl dX7_spans_139 ?_
                refine lv_iload_n hx hb dX7_spans_142 rfl (lv_at hl 3 rfl) ?_
                obtain ⟨k19, hf⟩ := zck_some hf
                refine ziald hx hb hK hH hk_mo_longest 0 h_mo_longest rfl k19 rfl dX7_spans_143 ?_
                refine lz_imul hx hb dX7_spans_144 ?_
                refine lv_iload hx hb dX7_spans_145 (lv_at hl 0 rfl) ?_
                obtain ⟨k20, hf⟩ := zck_some hf
                refine lz_icmp_ne (tgt := 154) hx hb k20 dX7_spans_147 (by decide) (fun c21 => ?_) (fun c21 => ?_)
                · replace hf := (if_neg c21).symm.trans hf
                  refine lv_iconst (v := zI 0) hx hb dX7_spans_154 (by decide +kernel) ?_
                  exact JL69_155 mo_pointX mo_pointY mo_points x7 s0 0 _ _ _ hH h_mo h_mo_longest h_mo_shift h_mo_pull h_mo_pointX h_mo_pointY h_mo_crossing hbg _ (lv_sub hl [2, 3, 4, 5, 6, 7, 8, 1] rfl) hf
                · replace hf := (if_pos c21).symm.trans hf
                  exact JL69_150 mo_pointX mo_pointY mo_points x7 s0 _ _ _ hH h_mo h_mo_longest h_mo_shift h_mo_pull h_mo_pointX h_mo_pointY h_mo_crossing hbg _ (lv_sub hl [2, 3, 4, 5, 6, 7, 8, 1] rfl) hf
          unfold f_X7_spans_L69 at hf
          refine lv_iload hx hb dX7_spans_69 (lv_at hl 6 rfl) ?_
          refine lv_iload hx hb dX7_spans_71 (lv_at hl 5 rfl) ?_
          refine lv_iload hx hb dX7_spans_73 (lv_at hl 4 rfl) ?_
          refine lz_isub hx hb dX7_spans_75 ?_
          obtain ⟨k22, hf⟩ := zck_some hf
          refine lz_icmp_gt (tgt := 178) hx hb k22 dX7_spans_76 (by decide) (fun c23 => ?_) (fun c23 => ?_)
          · replace hf := (if_pos c23).symm.trans hf
            cases hf
            cases hnx
            exact kx _ _ _ hH h_mo h_mo_longest h_mo_shift h_mo_pull h_mo_pointX h_mo_pointY h_mo_crossing hbg _ (lv_sub hl [0, 1, 2, 3] rfl)
          · replace hf := (if_neg c23).symm.trans hf
            refine lv_iload_n hx hb dX7_spans_79 rfl (lv_at hl 2 rfl) ?_
            refine lv_iconst (v := zI 2) hx hb dX7_spans_80 (by decide +kernel) ?_
            obtain ⟨k24, hf⟩ := zck_some hf
            refine lz_irem hx hb ⟨⟨k24, by decide⟩, by decide⟩ dX7_spans_81 ?_
            obtain ⟨k25, hf⟩ := zck_some hf
            refine lz_if_ne (tgt := 93) hx hb k25 dX7_spans_82 (by decide) (fun c26 => ?_) (fun c26 => ?_)
            · replace hf := (if_neg c26).symm.trans hf
              refine lv_iload hx hb dX7_spans_93 (lv_at hl 5 rfl) ?_
              refine lv_iload hx hb dX7_spans_95 (lv_at hl 6 rfl) ?_
              refine lz_isub hx hb dX7_spans_97 ?_
              exact JL69_98 mo_pointX mo_pointY mo_points x7 (x6 - x7) _ _ _ hH h_mo h_mo_longest h_mo_shift h_mo_pull h_mo_pointX h_mo_pointY h_mo_crossing hbg _ (lv_sub hl [0, 1, 2, 3, 4, 5, 6] rfl) hf
            · replace hf := (if_pos c26).symm.trans hf
              refine lv_iload hx hb dX7_spans_85 (lv_at hl 4 rfl) ?_
              refine lv_iload hx hb dX7_spans_87 (lv_at hl 6 rfl) ?_
              refine lz_iadd hx hb dX7_spans_89 ?_
              refine lv_goto (tgt := 98) hx hb dX7_spans_90 (by decide) ?_
              exact JL69_98 mo_pointX mo_pointY mo_points x7 (x5 + x7) _ _ _ hH h_mo h_mo_longest h_mo_shift h_mo_pull h_mo_pointX h_mo_pointY h_mo_crossing hbg _ (lv_sub hl [0, 1, 2, 3, 4, 5, 6] rfl) hf
      have JL2_30 : ∀ (mo_pointX : Int → Int) (mo_pointY : Int → Int) (mo_points : Int) (x3 : Int) (s0 : Int) (σ : Nat → va_E) (H : Heap) (locs : List Loc) (hH : zH D ad N (zFr ad N s.heap.size) s.heap σ H locs) (h_mo : σ 19 = oC_mo ad mo_fields mo_bound mo_points mo_crossings mo_isKnown mo_commands mo_needleX mo_needleY mo_hasFile mo_format mo_length mo_heads mo_late mo_ran mo_program mo_thrown mo_rowY mo_stitches) (h_mo_longest : σ 27 = .inl (cI, 8, .inl (zA mo_longest))) (h_mo_shift : σ 28 = .inl (cI, 8, .inl (zA mo_shift))) (h_mo_pull : σ 29 = .inl (cI, 8, .inl (zA mo_pull))) (h_mo_pointX : σ 31 = .inl (cI, 4096, .inl (zA mo_pointX))) (h_mo_pointY : σ 32 = .inl (cI, 4096, .inl (zA mo_pointY))) (h_mo_crossing : σ 33 = .inl (cI, 8, .inl (zA mo_crossing))) (hbg : ∀ i : Nat, i ≠ 19 → i ≠ 31 → i ≠ 32 → σ i = σ0 i) (ls : Array Slot) (hl : lv_has ls 11 [(0, .ref (ad 19)), (1, .int (zI x1)), (2, .int (zI x2)), (3, .int (zI x3))]), f_X7_spans_L2_30 mo_longest mo_shift mo_pull mo_pointX mo_pointY mo_points mo_crossing mo_crossings mo_rowY x1 x2 x3 s0 = some nx → W p l e rmX7_spans s m args below meth c H locs 0 0 Q (F0 m 30 ls [.int (zI s0)]) := by
        intro mo_pointX mo_pointY mo_points x3 s0 σ H locs hH h_mo h_mo_longest h_mo_shift h_mo_pull h_mo_pointX h_mo_pointY h_mo_crossing hbg ls hl hf
        unfold f_X7_spans_L2_30 at hf
        refine lv_istore (lv' := [(4, .int (zI s0)), (0, .ref (ad 19)), (1, .int (zI x1)), (2, .int (zI x2)), (3, .int (zI x3))]) hx hb dX7_spans_30 hl (by decide) rfl (fun ls hl => ?_)
        refine lv_aload_n hx hb dX7_spans_32 rfl (lv_at hl 1 rfl) ?_
        refine zget hx hb inlX7 rfl 16 rfl zk_t4_129 hts hown hK hH hk_mo h_mo rfl dX7_spans_33 ?_
        refine lv_iload hx hb dX7_spans_36 (lv_at hl 0 rfl) ?_
        obtain ⟨k27, hf⟩ := zck_some hf
        refine ziald hx hb hK hH hk_mo_crossing 0 h_mo_crossing rfl k27 rfl dX7_spans_38 ?_
        refine lv_aload_n hx hb dX7_spans_39 rfl (lv_at hl 1 rfl) ?_
        refine zget hx hb inlX7 rfl 10 rfl zk_t4_123 hts hown hK hH hk_mo h_mo rfl dX7_spans_40 ?_
        refine lv_iload_n hx hb dX7_spans_43 rfl (lv_at hl 2 rfl) ?_
        obtain ⟨k28, hf⟩ := zck_some hf
        refine ziald hx hb hK hH hk_mo_pull 0 h_mo_pull rfl k28 rfl dX7_spans_44 ?_
        refine lz_isub hx hb dX7_spans_45 ?_
        obtain ⟨v29, ev29, hf⟩ := zlt_some hf
        refine lz_nm ev29 ?_
        refine lv_istore (lv' := [(5, .int (zI v29)), (4, .int (zI s0)), (0, .ref (ad 19)), (1, .int (zI x1)), (2, .int (zI x2)), (3, .int (zI x3))]) hx hb dX7_spans_46 hl (by decide) rfl (fun ls hl => ?_)
        refine lv_aload_n hx hb dX7_spans_48 rfl (lv_at hl 2 rfl) ?_
        refine zget hx hb inlX7 rfl 16 rfl zk_t4_129 hts hown hK hH hk_mo h_mo rfl dX7_spans_49 ?_
        refine lv_iload hx hb dX7_spans_52 (lv_at hl 1 rfl) ?_
        refine lv_iconst (v := zI 1) hx hb dX7_spans_54 (by decide +kernel) ?_
        refine lz_iadd hx hb dX7_spans_55 ?_
        obtain ⟨k30, hf⟩ := zck_some hf
        refine ziald hx hb hK hH hk_mo_crossing 0 h_mo_crossing rfl k30 rfl dX7_spans_56 ?_
        refine lv_aload_n hx hb dX7_spans_57 rfl (lv_at hl 2 rfl) ?_
        refine zget hx hb inlX7 rfl 10 rfl zk_t4_123 hts hown hK hH hk_mo h_mo rfl dX7_spans_58 ?_
        refine lv_iload_n hx hb dX7_spans_61 rfl (lv_at hl 3 rfl) ?_
        obtain ⟨k31, hf⟩ := zck_some hf
        refine ziald hx hb hK hH hk_mo_pull 0 h_mo_pull rfl k31 rfl dX7_spans_62 ?_
        refine lz_iadd hx hb dX7_spans_63 ?_
        obtain ⟨v32, ev32, hf⟩ := zlt_some hf
        refine lz_nm ev32 ?_
        refine lv_istore (lv' := [(6, .int (zI v32)), (5, .int (zI v29)), (4, .int (zI s0)), (0, .ref (ad 19)), (1, .int (zI x1)), (2, .int (zI x2)), (3, .int (zI x3))]) hx hb dX7_spans_64 hl (by decide) rfl (fun ls hl => ?_)
        refine lv_iconst (v := zI 0) hx hb dX7_spans_66 (by decide +kernel) ?_
        refine lv_istore (lv' := [(7, .int (zI 0)), (6, .int (zI v32)), (5, .int (zI v29)), (4, .int (zI s0)), (0, .ref (ad 19)), (1, .int (zI x1)), (2, .int (zI x2)), (3, .int (zI x3))]) hx hb dX7_spans_67 hl (by decide) rfl (fun ls hl => ?_)
        obtain ⟨w34, w35, w36, w37, k33, hf⟩ := zb4_some hf
        refine L69 x1 x2 x3 v29 v32 zFU 0 mo_pointX mo_pointY mo_points w34 w35 w36 w37 k33 _ _ _ hH h_mo h_mo_longest h_mo_shift h_mo_pull h_mo_pointX h_mo_pointY h_mo_crossing hbg _ (lv_sub hl [4, 5, 6, 7, 2, 1, 0] rfl) (fun σ38 Hσ38 lσ38 hH h_mo h_mo_longest h_mo_shift h_mo_pull h_mo_pointX h_mo_pointY h_mo_crossing hbg ls hl => ?_)
        refine lz_iinc (lv' := [(3, .int (zI (x3 + 2))), (0, .ref (ad 19)), (1, .int (zI x1)), (2, .int (zI x2))]) hx hb dX7_spans_178 hl (j := 3) rfl (by decide) rfl (fun ls hl => ?_)
        refine lv_goto (tgt := 2) hx hb dX7_spans_181 (by decide) ?_
        cases hf
        exact ih (x3 + 2) w35 w36 w37 _ _ _ _ hnx _ _ _ hH h_mo h_mo_longest h_mo_shift h_mo_pull h_mo_pointX h_mo_pointY h_mo_crossing hbg _ (lv_sub hl [1, 2, 3, 0] rfl) kx
      unfold f_X7_spans_L2 at hf
      refine lv_iload_n hx hb dX7_spans_2 rfl (lv_at hl 3 rfl) ?_
      refine lv_iconst (v := zI 1) hx hb dX7_spans_3 (by decide +kernel) ?_
      refine lz_iadd hx hb dX7_spans_4 ?_
      refine lv_aload_n hx hb dX7_spans_5 rfl (lv_at hl 0 rfl) ?_
      refine zget hx hb inlX7 rfl 17 rfl zk_t4_130 hts hown hK hH hk_mo h_mo rfl dX7_spans_6 ?_
      obtain ⟨k39, hf⟩ := zck_some hf
      refine lz_icmp_ge (tgt := 184) hx hb k39 dX7_spans_9 (by decide) (fun c40 => ?_) (fun c40 => ?_)
      · replace hf := (if_pos c40).symm.trans hf
        cases hf
        cases hnx
        exact kx _ _ _ hH h_mo h_mo_longest h_mo_shift h_mo_pull h_mo_pointX h_mo_pointY h_mo_crossing hbg _ (lv_sub hl [] rfl)
      · replace hf := (if_neg c40).symm.trans hf
        refine lv_iload_n hx hb dX7_spans_12 rfl (lv_at hl 2 rfl) ?_
        refine lv_iconst (v := zI 2) hx hb dX7_spans_13 (by decide +kernel) ?_
        obtain ⟨k41, hf⟩ := zck_some hf
        refine lz_irem hx hb ⟨⟨k41, by decide⟩, by decide⟩ dX7_spans_14 ?_
        obtain ⟨k42, hf⟩ := zck_some hf
        refine lz_if_ne (tgt := 22) hx hb k42 dX7_spans_15 (by decide) (fun c43 => ?_) (fun c43 => ?_)
        · replace hf := (if_neg c43).symm.trans hf
          refine lv_aload_n hx hb dX7_spans_22 rfl (lv_at hl 0 rfl) ?_
          refine zget hx hb inlX7 rfl 17 rfl zk_t4_130 hts hown hK hH hk_mo h_mo rfl dX7_spans_23 ?_
          refine lv_iconst (v := zI 2) hx hb dX7_spans_26 (by decide +kernel) ?_
          refine lz_isub hx hb dX7_spans_27 ?_
          refine lv_iload_n hx hb dX7_spans_28 rfl (lv_at hl 3 rfl) ?_
          refine lz_isub hx hb dX7_spans_29 ?_
          exact JL2_30 mo_pointX mo_pointY mo_points x3 ((mo_crossings - 2) - x3) _ _ _ hH h_mo h_mo_longest h_mo_shift h_mo_pull h_mo_pointX h_mo_pointY h_mo_crossing hbg _ (lv_sub hl [0, 1, 2, 3] rfl) hf
        · replace hf := (if_pos c43).symm.trans hf
          refine lv_iload_n hx hb dX7_spans_18 rfl (lv_at hl 3 rfl) ?_
          refine lv_goto (tgt := 30) hx hb dX7_spans_19 (by decide) ?_
          exact JL2_30 mo_pointX mo_pointY mo_points x3 x3 _ _ _ hH h_mo h_mo_longest h_mo_shift h_mo_pull h_mo_pointX h_mo_pointY h_mo_crossing hbg _ (lv_sub hl [0, 1, 2, 3] rfl) hf
  unfold f_X7_spans at hf
  refine lv_iconst (v := zI 0) hx hb dX7_spans_0 (by decide +kernel) ?_
  refine lv_istore_n (lv' := [(3, .int (zI 0)), (0, .ref (ad 19)), (1, .int (zI p1)), (2, .int (zI p2))]) hx hb dX7_spans_1 rfl hl (by decide) rfl (fun ls hl => ?_)
  obtain ⟨w45, w46, w47, w48, k44, hf⟩ := zb4_some hf
  refine L2 p1 p2 zFU 0 mo_pointX mo_pointY mo_points w45 w46 w47 w48 k44 _ _ _ hH h_mo h_mo_longest h_mo_shift h_mo_pull h_mo_pointX h_mo_pointY h_mo_crossing hbg _ (lv_sub hl [1, 2, 3, 0] rfl) (fun σ49 Hσ49 lσ49 hH h_mo h_mo_longest h_mo_shift h_mo_pull h_mo_pointX h_mo_pointY h_mo_crossing hbg ls hl => ?_)
  cases hf
  exact zretv hx hb hr hlocks hQ hH ⟨h_mo, h_mo_pointX, h_mo_pointY, hbg⟩ dX7_spans_184
abbrev rmX7_rows : Room := { frames := 2, cells := 0, slots := 0, locals := 53 }
theorem hd_X7_rows : yX7_rows.cls = RX7 ∧ yX7_rows.cls ≠ "java/lang/invoke/MethodHandle" ∧ yX7_rows.cls ≠ "java/lang/invoke/VarHandle" ∧ (parseMethodDescriptor yX7_rows.desc).map (fun d => d.parameters.length) = some 1 := by decide +kernel
set_option maxHeartbeats 4000000 in
set_option maxRecDepth 100000 in
theorem c_X7_rows {l : Launch} {D : va_G} {cI cZ cF cL cD : ClassId} {ad : Nat → Nat} {N : Nat} (hI : ∀ i j, i < N → j < N → ad i = ad j → i = j) (hN : 46 ≤ N) {σ0 : Nat → va_E} {sz : Nat} {mo_fields : Int} {mo_corners : Int → Int} {mo_cornerX : Int → Int} {mo_cornerY : Int → Int} {mo_density : Int → Int} {mo_longest : Int → Int} {mo_shift : Int → Int} {mo_pull : Int → Int} {mo_bound : Int} {mo_pointX : Int → Int} {mo_pointY : Int → Int} {mo_points : Int} {mo_crossing : Int → Int} {mo_crossings : Int} {mo_isKnown : Int} {mo_commands : Int} {mo_needleX : Int} {mo_needleY : Int} {mo_hasFile : Int} {mo_format : Int} {mo_length : Int} {mo_heads : Int} {mo_late : Int} {mo_ran : Int} {mo_program : Int} {mo_thrown : Int} {mo_rowY : Int} {mo_stitches : Int} {p1 : Int} {R_mo_pointX : Int → Int} {R_mo_pointY : Int → Int} {R_mo_points : Int} {R_mo_crossing : Int → Int} {R_mo_crossings : Int} {R_mo_rowY : Int} (h_mo : σ0 19 = oC_mo ad mo_fields mo_bound mo_points mo_crossings mo_isKnown mo_commands mo_needleX mo_needleY mo_hasFile mo_format mo_length mo_heads mo_late mo_ran mo_program mo_thrown mo_rowY mo_stitches) (h_mo_corners : σ0 23 = .inl (cI, 8, .inl (zA mo_corners))) (h_mo_cornerX : σ0 24 = .inl (cI, 64, .inl (zA mo_cornerX))) (h_mo_cornerY : σ0 25 = .inl (cI, 64, .inl (zA mo_cornerY))) (h_mo_density : σ0 26 = .inl (cI, 8, .inl (zA mo_density))) (h_mo_longest : σ0 27 = .inl (cI, 8, .inl (zA mo_longest))) (h_mo_shift : σ0 28 = .inl (cI, 8, .inl (zA mo_shift))) (h_mo_pull : σ0 29 = .inl (cI, 8, .inl (zA mo_pull))) (h_mo_pointX : σ0 31 = .inl (cI, 4096, .inl (zA mo_pointX))) (h_mo_pointY : σ0 32 = .inl (cI, 4096, .inl (zA mo_pointY))) (h_mo_crossing : σ0 33 = .inl (cI, 8, .inl (zA mo_crossing))) (hf : f_X7_rows mo_corners mo_cornerX mo_cornerY mo_density mo_longest mo_shift mo_pull mo_pointX mo_pointY mo_points mo_crossing mo_crossings mo_rowY p1 = some (R_mo_pointX, R_mo_pointY, R_mo_points, R_mo_crossing, R_mo_crossings, R_mo_rowY)) :
    Met l yX7_rows (Cond.code yX7_rows cX7_rows 6 none :: wsL_law) rmX7_rows (zPre D ad N (zT cI cZ cF cL cD) σ0 sz [.ref (ad 19), .int (zI p1)]) (zQv D ad N sz (fun σ' => σ' 19 = oC_mo ad mo_fields mo_bound R_mo_points R_mo_crossings mo_isKnown mo_commands mo_needleX mo_needleY mo_hasFile mo_format mo_length mo_heads mo_late mo_ran mo_program mo_thrown R_mo_rowY mo_stitches ∧ σ' 31 = .inl (cI, 4096, .inl (zA R_mo_pointX)) ∧ σ' 32 = .inl (cI, 4096, .inl (zA R_mo_pointY)) ∧ σ' 33 = .inl (cI, 8, .inl (zA R_mo_crossing)) ∧ ∀ i : Nat, i ≠ 19 → i ≠ 31 → i ≠ 32 → i ≠ 33 → σ' i = σ0 i)) 0 0 (zFr ad N sz) := by
  refine zMet hI (plainFor_of_name (by decide)) (Nat.le_of_ble_eq_true rfl) ⟨rfl, rfl⟩ ?_
  intro p e s m args below meth c Q hx hb hr hlocks hml hown hts hK hsz hQ hH hA ls hl
  subst hsz
  have hk_mo : 19 < N := by omega
  have hk_mo_corners : 23 < N := by omega
  have hk_mo_cornerX : 24 < N := by omega
  have hk_mo_cornerY : 25 < N := by omega
  have hk_mo_density : 26 < N := by omega
  have hk_mo_longest : 27 < N := by omega
  have hk_mo_shift : 28 < N := by omega
  have hk_mo_pull : 29 < N := by omega
  have hk_mo_pointX : 31 < N := by omega
  have hk_mo_pointY : 32 < N := by omega
  have hk_mo_crossing : 33 < N := by omega
  have hl : lv_has ls 6 [(0, .ref (ad 19)), (1, .int (zI p1))] := hl
  have hbg : ∀ i : Nat, i ≠ 19 → i ≠ 31 → i ≠ 32 → i ≠ 33 → σ0 i = σ0 i := fun _ _ _ _ _ => rfl
  have L65 : ∀ (x1 : Int) (x3 : Int)  (n : Nat) (x4 : Int) (x5 : Int) (mo_pointX : Int → Int) (mo_pointY : Int → Int) (mo_points : Int) (mo_crossing : Int → Int) (mo_crossings : Int) (mo_rowY : Int) (x4' : Int) (x5' : Int) (mo_pointX' : Int → Int) (mo_pointY' : Int → Int) (mo_points' : Int) (mo_crossing' : Int → Int) (mo_crossings' : Int) (mo_rowY' : Int), zlp (fun z => f_X7_rows_L65 mo_corners mo_cornerX mo_cornerY mo_density mo_longest mo_shift mo_pull x1 x3 z.1 z.2.1 z.2.2.1 z.2.2.2.1 z.2.2.2.2.1 z.2.2.2.2.2.1 z.2.2.2.2.2.2.1 z.2.2.2.2.2.2.2) n (x4, x5, mo_pointX, mo_pointY, mo_points, mo_crossing, mo_crossings, mo_rowY) = some (x4', x5', mo_pointX', mo_pointY', mo_points', mo_crossing', mo_crossings', mo_rowY') → ∀ (σ : Nat → va_E) (H : Heap) (locs : List Loc) (hH : zH D ad N (zFr ad N s.heap.size) s.heap σ H locs) (h_mo : σ 19 = oC_mo ad mo_fields mo_bound mo_points mo_crossings mo_isKnown mo_commands mo_needleX mo_needleY mo_hasFile mo_format mo_length mo_heads mo_late mo_ran mo_program mo_thrown mo_rowY mo_stitches) (h_mo_corners : σ 23 = .inl (cI, 8, .inl (zA mo_corners))) (h_mo_cornerX : σ 24 = .inl (cI, 64, .inl (zA mo_cornerX))) (h_mo_cornerY : σ 25 = .inl (cI, 64, .inl (zA mo_cornerY))) (h_mo_density : σ 26 = .inl (cI, 8, .inl (zA mo_density))) (h_mo_longest : σ 27 = .inl (cI, 8, .inl (zA mo_longest))) (h_mo_shift : σ 28 = .inl (cI, 8, .inl (zA mo_shift))) (h_mo_pull : σ 29 = .inl (cI, 8, .inl (zA mo_pull))) (h_mo_pointX : σ 31 = .inl (cI, 4096, .inl (zA mo_pointX))) (h_mo_pointY : σ 32 = .inl (cI, 4096, .inl (zA mo_pointY))) (h_mo_crossing : σ 33 = .inl (cI, 8, .inl (zA mo_crossing))) (hbg : ∀ i : Nat, i ≠ 19 → i ≠ 31 → i ≠ 32 → i ≠ 33 → σ i = σ0 i) (ls : Array Slot) (hl : lv_has ls 6 [(0, .ref (ad 19)), (1, .int (zI x1)), (3, .int (zI x3)), (4, .int (zI x4)), (5, .int (zI x5))]), (∀ (σ : Nat → va_E) (H : Heap) (locs : List Loc) (hH : zH D ad N (zFr ad N s.heap.size) s.heap σ H locs) (h_mo : σ 19 = oC_mo ad mo_fields mo_bound (mo_points') (mo_crossings') mo_isKnown mo_commands mo_needleX mo_needleY mo_hasFile mo_format mo_length mo_heads mo_late mo_ran mo_program mo_thrown (mo_rowY') mo_stitches) (h_mo_corners : σ 23 = .inl (cI, 8, .inl (zA mo_corners))) (h_mo_cornerX : σ 24 = .inl (cI, 64, .inl (zA mo_cornerX))) (h_mo_cornerY : σ 25 = .inl (cI, 64, .inl (zA mo_cornerY))) (h_mo_density : σ 26 = .inl (cI, 8, .inl (zA mo_density))) (h_mo_longest : σ 27 = .inl (cI, 8, .inl (zA mo_longest))) (h_mo_shift : σ 28 = .inl (cI, 8, .inl (zA mo_shift))) (h_mo_pull : σ 29 = .inl (cI, 8, .inl (zA mo_pull))) (h_mo_pointX : σ 31 = .inl (cI, 4096, .inl (zA (mo_pointX')))) (h_mo_pointY : σ 32 = .inl (cI, 4096, .inl (zA (mo_pointY')))) (h_mo_crossing : σ 33 = .inl (cI, 8, .inl (zA (mo_crossing')))) (hbg : ∀ i : Nat, i ≠ 19 → i ≠ 31 → i ≠ 32 → i ≠ 33 → σ i = σ0 i) (ls : Array Slot) (hl : lv_has ls 6 []), W p l e rmX7_rows s m args below meth c H locs 0 0 Q (F0 m 108 ls [])) → W p l e rmX7_rows s m args below meth c H locs 0 0 Q (F0 m 65 ls []) := by
    intro x1 x3 n
    induction n with
    | zero => intro x4 x5 mo_pointX mo_pointY mo_points mo_crossing mo_crossings mo_rowY x4' x5' mo_pointX' mo_pointY' mo_points' mo_crossing' mo_crossings' mo_rowY' hz; exact (zlp_0 hz).elim
    | succ n ih =>
      intro x4 x5 mo_pointX mo_pointY mo_points mo_crossing mo_crossings mo_rowY x4' x5' mo_pointX' mo_pointY' mo_points' mo_crossing' mo_crossings' mo_rowY' hz σ H locs hH h_mo h_mo_corners h_mo_cornerX h_mo_cornerY h_mo_density h_mo_longest h_mo_shift h_mo_pull h_mo_pointX h_mo_pointY h_mo_crossing hbg ls hl kx
      obtain ⟨nx, hf, hnx⟩ := zlp_some hz
      have hf : f_X7_rows_L65 mo_corners mo_cornerX mo_cornerY mo_density mo_longest mo_shift mo_pull x1 x3 x4 x5 mo_pointX mo_pointY mo_points mo_crossing mo_crossings mo_rowY = some nx := hf
      unfold f_X7_rows_L65 at hf
      refine lv_iload hx hb dX7_rows_65 (lv_at hl 4 rfl) ?_
      refine lv_iload_n hx hb dX7_rows_67 rfl (lv_at hl 2 rfl) ?_
      obtain ⟨k1, hf⟩ := zck_some hf
      refine lz_icmp_ge (tgt := 108) hx hb k1 dX7_rows_68 (by decide) (fun c2 => ?_) (fun c2 => ?_)
      · replace hf := (if_pos c2).symm.trans hf
        cases hf
        cases hnx
        exact kx _ _ _ hH h_mo h_mo_corners h_mo_cornerX h_mo_cornerY h_mo_density h_mo_longest h_mo_shift h_mo_pull h_mo_pointX h_mo_pointY h_mo_crossing hbg _ (lv_sub hl [] rfl)
      · replace hf := (if_neg c2).symm.trans hf
        refine lv_aload_n hx hb dX7_rows_71 rfl (lv_at hl 0 rfl) ?_
        refine lv_iload hx hb dX7_rows_72 (lv_at hl 4 rfl) ?_
        refine zput hx hb inlX7 tyX7 tyX7_ok nmX7 rfl 40 rfl zk_t4_153 rfl hts hown hK hH hk_mo h_mo rfl rfl rfl dX7_rows_74 (fun σ3 Hσ3 lσ3 h_mo hn hH => ?_)
        have h_mo : σ3 19 = oC_mo ad mo_fields mo_bound mo_points mo_crossings mo_isKnown mo_commands mo_needleX mo_needleY mo_hasFile mo_format mo_length mo_heads mo_late mo_ran mo_program mo_thrown x5 mo_stitches := h_mo
        have h_mo_corners := (hn 23 (by decide)).trans h_mo_corners
        have h_mo_cornerX := (hn 24 (by decide)).trans h_mo_cornerX
        have h_mo_cornerY := (hn 25 (by decide)).trans h_mo_cornerY
        have h_mo_density := (hn 26 (by decide)).trans h_mo_density
        have h_mo_longest := (hn 27 (by decide)).trans h_mo_longest
        have h_mo_shift := (hn 28 (by decide)).trans h_mo_shift
        have h_mo_pull := (hn 29 (by decide)).trans h_mo_pull
        have h_mo_pointX := (hn 31 (by decide)).trans h_mo_pointX
        have h_mo_pointY := (hn 32 (by decide)).trans h_mo_pointY
        have h_mo_crossing := (hn 33 (by decide)).trans h_mo_crossing
        have hbg : ∀ i : Nat, i ≠ 19 → i ≠ 31 → i ≠ 32 → i ≠ 33 → σ3 i = σ0 i := fun i a0 a1 a2 a3 => (hn i a0).trans (hbg i a0 a1 a2 a3)
        refine lv_aload_n hx hb dX7_rows_77 rfl (lv_at hl 0 rfl) ?_
        refine lv_iload_n hx hb dX7_rows_78 rfl (lv_at hl 1 rfl) ?_
        refine lv_iload hx hb dX7_rows_79 (lv_at hl 4 rfl) ?_
        obtain ⟨a4, u5, k6, hf⟩ := zb2_some hf
        refine zcVv (C := RX7) (As := [.int (zI x1), .int (zI x5)]) (rest := []) hx hb hml hown hts hl.1 hK hH hA (c_X7_crosses hI hN  h_mo h_mo_corners h_mo_cornerX h_mo_cornerY h_mo_crossing k6) zk_t5_83 zk_t5_85 zk_s3_7 zk_t1_6 zk_t5_86 hd_X7_crosses rfl ⟨rfl, rfl, Nat.le_of_ble_eq_true rfl, Nat.le_of_ble_eq_true rfl⟩ ⟨Nat.zero_le _, Nat.zero_le _⟩ hk_mo h_mo rfl rfl rfl (Nat.le_of_ble_eq_true rfl) dX7_rows_81 (fun σ7 Hσ7 lσ7 hp hH => ?_)
        obtain ⟨h_mo, h_mo_crossing, hn⟩ := hp
        have h_mo_corners := (hn 23 (by decide) (by decide)).trans h_mo_corners
        have h_mo_cornerX := (hn 24 (by decide) (by decide)).trans h_mo_cornerX
        have h_mo_cornerY := (hn 25 (by decide) (by decide)).trans h_mo_cornerY
        have h_mo_density := (hn 26 (by decide) (by decide)).trans h_mo_density
        have h_mo_longest := (hn 27 (by decide) (by decide)).trans h_mo_longest
        have h_mo_shift := (hn 28 (by decide) (by decide)).trans h_mo_shift
        have h_mo_pull := (hn 29 (by decide) (by decide)).trans h_mo_pull
        have h_mo_pointX := (hn 31 (by decide) (by decide)).trans h_mo_pointX
        have h_mo_pointY := (hn 32 (by decide) (by decide)).trans h_mo_pointY
        have hbg : ∀ i : Nat, i ≠ 19 → i ≠ 31 → i ≠ 32 → i ≠ 33 → σ7 i = σ0 i := fun i a0 a1 a2 a3 => (hn i a0 a3).trans (hbg i a0 a1 a2 a3)
        refine lv_aload_n hx hb dX7_rows_84 rfl (lv_at hl 0 rfl) ?_
        refine lv_iload_n hx hb dX7_rows_85 rfl (lv_at hl 1 rfl) ?_
        refine lv_iload hx hb dX7_rows_86 (lv_at hl 3 rfl) ?_
        obtain ⟨a8, a9, u10, k11, hf⟩ := zb3_some hf
        refine zcVv (C := RX7) (As := [.int (zI x1), .int (zI x4)]) (rest := []) hx hb hml hown hts hl.1 hK hH hA (c_X7_spans hI hN  h_mo h_mo_longest h_mo_shift h_mo_pull h_mo_pointX h_mo_pointY h_mo_crossing k11) zk_t5_87 zk_t5_89 zk_s3_8 zk_t1_6 zk_t5_90 hd_X7_spans rfl ⟨rfl, rfl, Nat.le_of_ble_eq_true rfl, Nat.le_of_ble_eq_true rfl⟩ ⟨Nat.zero_le _, Nat.zero_le _⟩ hk_mo h_mo rfl rfl rfl (Nat.le_of_ble_eq_true rfl) dX7_rows_88 (fun σ12 Hσ12 lσ12 hp hH => ?_)
        obtain ⟨h_mo, h_mo_pointX, h_mo_pointY, hn⟩ := hp
        have h_mo_corners := (hn 23 (by decide) (by decide) (by decide)).trans h_mo_corners
        have h_mo_cornerX := (hn 24 (by decide) (by decide) (by decide)).trans h_mo_cornerX
        have h_mo_cornerY := (hn 25 (by decide) (by decide) (by decide)).trans h_mo_cornerY
        have h_mo_density := (hn 26 (by decide) (by decide) (by decide)).trans h_mo_density
        have h_mo_longest := (hn 27 (by decide) (by decide) (by decide)).trans h_mo_longest
        have h_mo_shift := (hn 28 (by decide) (by decide) (by decide)).trans h_mo_shift
        have h_mo_pull := (hn 29 (by decide) (by decide) (by decide)).trans h_mo_pull
        have h_mo_crossing := (hn 33 (by decide) (by decide) (by decide)).trans h_mo_crossing
        have hbg : ∀ i : Nat, i ≠ 19 → i ≠ 31 → i ≠ 32 → i ≠ 33 → σ12 i = σ0 i := fun i a0 a1 a2 a3 => (hn i a0 a1 a2).trans (hbg i a0 a1 a2 a3)
        refine lz_iinc (lv' := [(4, .int (zI (x4 + 1))), (0, .ref (ad 19)), (1, .int (zI x1)), (3, .int (zI x3)), (5, .int (zI x5))]) hx hb dX7_rows_91 hl (j := 3) rfl (by decide) rfl (fun ls hl => ?_)
        refine lv_iload hx hb dX7_rows_94 (lv_at hl 4 rfl) ?_
        refine lv_aload_n hx hb dX7_rows_96 rfl (lv_at hl 1 rfl) ?_
        refine zget hx hb inlX7 rfl 7 rfl zk_t4_120 hts hown hK hH hk_mo h_mo rfl dX7_rows_97 ?_
        refine lv_iload_n hx hb dX7_rows_100 rfl (lv_at hl 2 rfl) ?_
        obtain ⟨k13, hf⟩ := zck_some hf
        refine ziald hx hb hK hH hk_mo_density 0 h_mo_density rfl k13 rfl dX7_rows_101 ?_
        refine lz_iadd hx hb dX7_rows_102 ?_
        obtain ⟨v14, ev14, hf⟩ := zlt_some hf
        refine lz_nm ev14 ?_
        refine lv_istore (lv' := [(5, .int (zI v14)), (4, .int (zI (x4 + 1))), (0, .ref (ad 19)), (1, .int (zI x1)), (3, .int (zI x3))]) hx hb dX7_rows_103 hl (by decide) rfl (fun ls hl => ?_)
        refine lv_goto (tgt := 65) hx hb dX7_rows_105 (by decide) ?_
        cases hf
        exact ih (x4 + 1) v14 a8 a9 u10 a4 u5 x5 _ _ _ _ _ _ _ _ hnx _ _ _ hH h_mo h_mo_corners h_mo_cornerX h_mo_cornerY h_mo_density h_mo_longest h_mo_shift h_mo_pull h_mo_pointX h_mo_pointY h_mo_crossing hbg _ (lv_sub hl [2, 3, 4, 1, 0] rfl) kx
  have L8 : ∀ (mo_pointX : Int → Int) (mo_pointY : Int → Int) (mo_points : Int) (mo_crossing : Int → Int) (mo_crossings : Int) (mo_rowY : Int) (x1 : Int)  (n : Nat) (x2 : Int) (x3 : Int) (x4 : Int) (x2' : Int) (x3' : Int) (x4' : Int), zlp (fun z => f_X7_rows_L8 mo_corners mo_cornerX mo_cornerY mo_density mo_longest mo_shift mo_pull mo_pointX mo_pointY mo_points mo_crossing mo_crossings mo_rowY x1 z.1 z.2.1 z.2.2) n (x2, x3, x4) = some (x2', x3', x4') → ∀ (σ : Nat → va_E) (H : Heap) (locs : List Loc) (hH : zH D ad N (zFr ad N s.heap.size) s.heap σ H locs) (h_mo : σ 19 = oC_mo ad mo_fields mo_bound mo_points mo_crossings mo_isKnown mo_commands mo_needleX mo_needleY mo_hasFile mo_format mo_length mo_heads mo_late mo_ran mo_program mo_thrown mo_rowY mo_stitches) (h_mo_corners : σ 23 = .inl (cI, 8, .inl (zA mo_corners))) (h_mo_cornerX : σ 24 = .inl (cI, 64, .inl (zA mo_cornerX))) (h_mo_cornerY : σ 25 = .inl (cI, 64, .inl (zA mo_cornerY))) (h_mo_density : σ 26 = .inl (cI, 8, .inl (zA mo_density))) (h_mo_longest : σ 27 = .inl (cI, 8, .inl (zA mo_longest))) (h_mo_shift : σ 28 = .inl (cI, 8, .inl (zA mo_shift))) (h_mo_pull : σ 29 = .inl (cI, 8, .inl (zA mo_pull))) (h_mo_pointX : σ 31 = .inl (cI, 4096, .inl (zA mo_pointX))) (h_mo_pointY : σ 32 = .inl (cI, 4096, .inl (zA mo_pointY))) (h_mo_crossing : σ 33 = .inl (cI, 8, .inl (zA mo_crossing))) (hbg : ∀ i : Nat, i ≠ 19 → i ≠ 31 → i ≠ 32 → i ≠ 33 → σ i = σ0 i) (ls : Array Slot) (hl : lv_has ls 6 [(0, .ref (ad 19)), (1, .int (zI x1)), (2, .int (zI x2)), (3, .int (zI x3)), (4, .int (zI x4))]), (∀ (σ : Nat → va_E) (H : Heap) (locs : List Loc) (hH : zH D ad N (zFr ad N s.heap.size) s.heap σ H locs) (h_mo : σ 19 = oC_mo ad mo_fields mo_bound mo_points mo_crossings mo_isKnown mo_commands mo_needleX mo_needleY mo_hasFile mo_format mo_length mo_heads mo_late mo_ran mo_program mo_thrown mo_rowY mo_stitches) (h_mo_corners : σ 23 = .inl (cI, 8, .inl (zA mo_corners))) (h_mo_cornerX : σ 24 = .inl (cI, 64, .inl (zA mo_cornerX))) (h_mo_cornerY : σ 25 = .inl (cI, 64, .inl (zA mo_cornerY))) (h_mo_density : σ 26 = .inl (cI, 8, .inl (zA mo_density))) (h_mo_longest : σ 27 = .inl (cI, 8, .inl (zA mo_longest))) (h_mo_shift : σ 28 = .inl (cI, 8, .inl (zA mo_shift))) (h_mo_pull : σ 29 = .inl (cI, 8, .inl (zA mo_pull))) (h_mo_pointX : σ 31 = .inl (cI, 4096, .inl (zA mo_pointX))) (h_mo_pointY : σ 32 = .inl (cI, 4096, .inl (zA mo_pointY))) (h_mo_crossing : σ 33 = .inl (cI, 8, .inl (zA mo_crossing))) (hbg : ∀ i : Nat, i ≠ 19 → i ≠ 31 → i ≠ 32 → i ≠ 33 → σ i = σ0 i) (ls : Array Slot) (hl : lv_has ls 6 [(0, .ref (ad 19)), (1, .int (zI x1)), (2, .int (zI (x2'))), (3, .int (zI (x3')))]), W p l e rmX7_rows s m args below meth c H locs 0 0 Q (F0 m 59 ls [])) → W p l e rmX7_rows s m args below meth c H locs 0 0 Q (F0 m 8 ls []) := by
    intro mo_pointX mo_pointY mo_points mo_crossing mo_crossings mo_rowY x1 n
    induction n with
    | zero => intro x2 x3 x4 x2' x3' x4' hz; exact (zlp_0 hz).elim
    | succ n ih =>
      intro x2 x3 x4 x2' x3' x4' hz σ H locs hH h_mo h_mo_corners h_mo_cornerX h_mo_cornerY h_mo_density h_mo_longest h_mo_shift h_mo_pull h_mo_pointX h_mo_pointY h_mo_crossing hbg ls hl kx
      obtain ⟨nx, hf, hnx⟩ := zlp_some hz
      have hf : f_X7_rows_L8 mo_corners mo_cornerX mo_cornerY mo_density mo_longest mo_shift mo_pull mo_pointX mo_pointY mo_points mo_crossing mo_crossings mo_rowY x1 x2 x3 x4 = some nx := hf
      have JL8_45 : ∀ (x3 : Int) (x4 : Int) (x5 : Int) (s0 : Int) (σ : Nat → va_E) (H : Heap) (locs : List Loc) (hH : zH D ad N (zFr ad N s.heap.size) s.heap σ H locs) (h_mo : σ 19 = oC_mo ad mo_fields mo_bound mo_points mo_crossings mo_isKnown mo_commands mo_needleX mo_needleY mo_hasFile mo_format mo_length mo_heads mo_late mo_ran mo_program mo_thrown mo_rowY mo_stitches) (h_mo_corners : σ 23 = .inl (cI, 8, .inl (zA mo_corners))) (h_mo_cornerX : σ 24 = .inl (cI, 64, .inl (zA mo_cornerX))) (h_mo_cornerY : σ 25 = .inl (cI, 64, .inl (zA mo_cornerY))) (h_mo_density : σ 26 = .inl (cI, 8, .inl (zA mo_density))) (h_mo_longest : σ 27 = .inl (cI, 8, .inl (zA mo_longest))) (h_mo_shift : σ 28 = .inl (cI, 8, .inl (zA mo_shift))) (h_mo_pull : σ 29 = .inl (cI, 8, .inl (zA mo_pull))) (h_mo_pointX : σ 31 = .inl (cI, 4096, .inl (zA mo_pointX))) (h_mo_pointY : σ 32 = .inl (cI, 4096, .inl (zA mo_pointY))) (h_mo_crossing : σ 33 = .inl (cI, 8, .inl (zA mo_crossing))) (hbg : ∀ i : Nat, i ≠ 19 → i ≠ 31 → i ≠ 32 → i ≠ 33 → σ i = σ0 i) (ls : Array Slot) (hl : lv_has ls 6 [(0, .ref (ad 19)), (1, .int (zI x1)), (3, .int (zI x3)), (4, .int (zI x4)), (5, .int (zI x5))]), f_X7_rows_L8_45 mo_corners mo_cornerX mo_cornerY mo_density mo_longest mo_shift mo_pull mo_pointX mo_pointY mo_points mo_crossing mo_crossings mo_rowY x1 x3 x4 x5 s0 = some nx → W p l e rmX7_rows s m args below meth c H locs 0 0 Q (F0 m 45 ls [.int (zI s0)]) := by
        intro x3 x4 x5 s0 σ H locs hH h_mo h_mo_corners h_mo_cornerX h_mo_cornerY h_mo_density h_mo_longest h_mo_shift h_mo_pull h_mo_pointX h_mo_pointY h_mo_crossing hbg ls hl hf
        unfold f_X7_rows_L8_45 at hf
        refine lv_istore_n (lv' := [(2, .int (zI s0)), (0, .ref (ad 19)), (1, .int (zI x1)), (3, .int (zI x3)), (4, .int (zI x4)), (5, .int (zI x5))]) hx hb dX7_rows_45 rfl hl (by decide) rfl (fun ls hl => ?_)
        refine lv_iload_n hx hb dX7_rows_46 rfl (lv_at hl 3 rfl) ?_
        refine lv_iload hx hb dX7_rows_47 (lv_at hl 5 rfl) ?_
        obtain ⟨r15, k16, hf⟩ := zb1_some hf
        refine zcSi (As := [.int (zI x3), .int (zI x5)]) (rest := []) hx hb hml hown hts hl.1 hK hH hA (c_X7_greater hI hN   k16) zk_t5_62 zk_t5_63 zk_t1_6 zk_t5_64 hd_X7_greater rfl ⟨rfl, rfl, Nat.le_of_ble_eq_true rfl, Nat.le_of_ble_eq_true rfl⟩ ⟨Nat.zero_le _, Nat.zero_le _⟩ rfl (Nat.le_of_ble_eq_true rfl) dX7_rows_49 (fun q18 σ17 Hσ17 lσ17 hp hH => ?_)
        obtain ⟨hr1, hs1⟩ := hp; subst hr1; rw [hs1] at hH
        refine lv_istore_n (lv' := [(3, .int (zI r15)), (2, .int (zI s0)), (0, .ref (ad 19)), (1, .int (zI x1)), (4, .int (zI x4)), (5, .int (zI x5))]) hx hb dX7_rows_52 rfl hl (by decide) rfl (fun ls hl => ?_)
        refine lz_iinc (lv' := [(4, .int (zI (x4 + 1))), (3, .int (zI r15)), (2, .int (zI s0)), (0, .ref (ad 19)), (1, .int (zI x1)), (5, .int (zI x5))]) hx hb dX7_rows_53 hl (j := 4) rfl (by decide) rfl (fun ls hl => ?_)
        refine lv_goto (tgt := 8) hx hb dX7_rows_56 (by decide) ?_
        cases hf
        exact ih s0 r15 (x4 + 1) _ _ _ hnx _ _ _ hH h_mo h_mo_corners h_mo_cornerX h_mo_cornerY h_mo_density h_mo_longest h_mo_shift h_mo_pull h_mo_pointX h_mo_pointY h_mo_crossing hbg _ (lv_sub hl [3, 4, 2, 1, 0] rfl) kx
      unfold f_X7_rows_L8 at hf
      refine lv_iload hx hb dX7_rows_8 (lv_at hl 4 rfl) ?_
      refine lv_aload_n hx hb dX7_rows_10 rfl (lv_at hl 0 rfl) ?_
      refine zget hx hb inlX7 rfl 4 rfl zk_t4_117 hts hown hK hH hk_mo h_mo rfl dX7_rows_11 ?_
      refine lv_iload_n hx hb dX7_rows_14 rfl (lv_at hl 1 rfl) ?_
      obtain ⟨k19, hf⟩ := zck_some hf
      refine ziald hx hb hK hH hk_mo_corners 0 h_mo_corners rfl k19 rfl dX7_rows_15 ?_
      obtain ⟨k20, hf⟩ := zck_some hf
      refine lz_icmp_ge (tgt := 59) hx hb k20 dX7_rows_16 (by decide) (fun c21 => ?_) (fun c21 => ?_)
      · replace hf := (if_pos c21).symm.trans hf
        cases hf
        cases hnx
        exact kx _ _ _ hH h_mo h_mo_corners h_mo_cornerX h_mo_cornerY h_mo_density h_mo_longest h_mo_shift h_mo_pull h_mo_pointX h_mo_pointY h_mo_crossing hbg _ (lv_sub hl [0, 1, 2, 3] rfl)
      · replace hf := (if_neg c21).symm.trans hf
        refine lv_aload_n hx hb dX7_rows_19 rfl (lv_at hl 0 rfl) ?_
        refine zget hx hb inlX7 rfl 6 rfl zk_t4_119 hts hown hK hH hk_mo h_mo rfl dX7_rows_20 ?_
        refine lv_bipush (v := zI 8) hx hb dX7_rows_23 (by decide +kernel) ?_
        refine lv_iload_n hx hb dX7_rows_25 rfl (lv_at hl 1 rfl) ?_
        refine lz_imul hx hb dX7_rows_26 ?_
        refine lv_iload hx hb dX7_rows_27 (lv_at hl 4 rfl) ?_
        refine lz_iadd hx hb dX7_rows_29 ?_
        obtain ⟨k22, hf⟩ := zck_some hf
        refine ziald hx hb hK hH hk_mo_cornerY 0 h_mo_cornerY rfl k22 rfl dX7_rows_30 ?_
        obtain ⟨v23, ev23, hf⟩ := zlt_some hf
        refine lz_nm ev23 ?_
        refine lv_istore (lv' := [(5, .int (zI v23)), (0, .ref (ad 19)), (1, .int (zI x1)), (2, .int (zI x2)), (3, .int (zI x3)), (4, .int (zI x4))]) hx hb dX7_rows_31 hl (by decide) rfl (fun ls hl => ?_)
        refine lv_iload hx hb dX7_rows_33 (lv_at hl 0 rfl) ?_
        refine lv_iload_n hx hb dX7_rows_35 rfl (lv_at hl 3 rfl) ?_
        obtain ⟨k24, hf⟩ := zck_some hf
        refine lz_icmp_ge (tgt := 44) hx hb k24 dX7_rows_36 (by decide) (fun c25 => ?_) (fun c25 => ?_)
        · replace hf := (if_pos c25).symm.trans hf
          refine lv_iload_n hx hb dX7_rows_44 rfl (lv_at hl 3 rfl) ?_
          exact JL8_45 x3 x4 v23 x2 _ _ _ hH h_mo h_mo_corners h_mo_cornerX h_mo_cornerY h_mo_density h_mo_longest h_mo_shift h_mo_pull h_mo_pointX h_mo_pointY h_mo_crossing hbg _ (lv_sub hl [1, 2, 4, 5, 0] rfl) hf
        · replace hf := (if_neg c25).symm.trans hf
          refine lv_iload hx hb dX7_rows_39 (lv_at hl 0 rfl) ?_
          refine lv_goto (tgt := 45) hx hb dX7_rows_41 (by decide) ?_
          exact JL8_45 x3 x4 v23 v23 _ _ _ hH h_mo h_mo_corners h_mo_cornerX h_mo_cornerY h_mo_density h_mo_longest h_mo_shift h_mo_pull h_mo_pointX h_mo_pointY h_mo_crossing hbg _ (lv_sub hl [1, 2, 4, 5, 0] rfl) hf
  unfold f_X7_rows at hf
  refine lv_bipush (v := zI 32) hx hb dX7_rows_0 (by decide +kernel) ?_
  refine lv_istore_n (lv' := [(2, .int (zI 32)), (0, .ref (ad 19)), (1, .int (zI p1))]) hx hb dX7_rows_2 rfl hl (by decide) rfl (fun ls hl => ?_)
  refine lv_iconst (v := zI 0) hx hb dX7_rows_3 (by decide +kernel) ?_
  refine lv_istore_n (lv' := [(3, .int (zI 0)), (2, .int (zI 32)), (0, .ref (ad 19)), (1, .int (zI p1))]) hx hb dX7_rows_4 rfl hl (by decide) rfl (fun ls hl => ?_)
  refine lv_iconst (v := zI 0) hx hb dX7_rows_5 (by decide +kernel) ?_
  refine lv_istore (lv' := [(4, .int (zI 0)), (3, .int (zI 0)), (2, .int (zI 32)), (0, .ref (ad 19)), (1, .int (zI p1))]) hx hb dX7_rows_6 hl (by decide) rfl (fun ls hl => ?_)
  obtain ⟨w27, w28, w29, k26, hf⟩ := zb3_some hf
  refine L8 mo_pointX mo_pointY mo_points mo_crossing mo_crossings mo_rowY p1 zFU 32 0 0 w27 w28 w29 k26 _ _ _ hH h_mo h_mo_corners h_mo_cornerX h_mo_cornerY h_mo_density h_mo_longest h_mo_shift h_mo_pull h_mo_pointX h_mo_pointY h_mo_crossing hbg _ (lv_sub hl [3, 4, 2, 1, 0] rfl) (fun σ30 Hσ30 lσ30 hH h_mo h_mo_corners h_mo_cornerX h_mo_cornerY h_mo_density h_mo_longest h_mo_shift h_mo_pull h_mo_pointX h_mo_pointY h_mo_crossing hbg ls hl => ?_)
  refine lv_iconst (v := zI 0) hx hb dX7_rows_59 (by decide +kernel) ?_
  refine lv_istore (lv' := [(4, .int (zI 0)), (0, .ref (ad 19)), (1, .int (zI p1)), (2, .int (zI w27)), (3, .int (zI w28))]) hx hb dX7_rows_60 hl (by decide) rfl (fun ls hl => ?_)
  refine lv_iload_n hx hb dX7_rows_62 rfl (lv_at hl 3 rfl) ?_
  refine lv_istore (lv' := [(5, .int (zI w27)), (4, .int (zI 0)), (0, .ref (ad 19)), (1, .int (zI p1)), (2, .int (zI w27)), (3, .int (zI w28))]) hx hb dX7_rows_63 hl (by decide) rfl (fun ls hl => ?_)
  obtain ⟨w32, w33, w34, w35, w36, w37, w38, w39, k31, hf⟩ := zb8_some hf
  refine L65 p1 w28 zFU 0 w27 mo_pointX mo_pointY mo_points mo_crossing mo_crossings mo_rowY w32 w33 w34 w35 w36 w37 w38 w39 k31 _ _ _ hH h_mo h_mo_corners h_mo_cornerX h_mo_cornerY h_mo_density h_mo_longest h_mo_shift h_mo_pull h_mo_pointX h_mo_pointY h_mo_crossing hbg _ (lv_sub hl [2, 3, 5, 1, 0] rfl) (fun σ40 Hσ40 lσ40 hH h_mo h_mo_corners h_mo_cornerX h_mo_cornerY h_mo_density h_mo_longest h_mo_shift h_mo_pull h_mo_pointX h_mo_pointY h_mo_crossing hbg ls hl => ?_)
  cases hf
  exact zretv hx hb hr hlocks hQ hH ⟨h_mo, h_mo_pointX, h_mo_pointY, h_mo_crossing, hbg⟩ dX7_rows_108
abbrev rmX7_steps : Room := { frames := 1, cells := 0, slots := 0, locals := 21 }
theorem hd_X7_steps : yX7_steps.cls ≠ "java/lang/invoke/MethodHandle" ∧ yX7_steps.cls ≠ "java/lang/invoke/VarHandle" ∧ (parseMethodDescriptor yX7_steps.desc).map (fun d => d.parameters.length) = some 3 := by decide +kernel
set_option maxHeartbeats 4000000 in
set_option maxRecDepth 100000 in
theorem c_X7_steps {l : Launch} {D : va_G} {cI cZ cF cL cD : ClassId} {ad : Nat → Nat} {N : Nat} (hI : ∀ i j, i < N → j < N → ad i = ad j → i = j) (hN : 46 ≤ N) {σ0 : Nat → va_E} {sz : Nat} {p0 : Int} {p1 : Int} {p2 : Int} {R0 : Int}  (hf : f_X7_steps p0 p1 p2 = some R0) :
    Met l yX7_steps (Cond.code yX7_steps cX7_steps 3 (some .int) :: wsL_law) rmX7_steps (zPre D ad N (zT cI cZ cF cL cD) σ0 sz [.int (zI p0), .int (zI p1), .int (zI p2)]) (zQi D ad N sz (fun r σ' => r = zI R0 ∧ σ' = σ0)) 0 0 (zFr ad N sz) := by
  refine zMet hI (plainFor_of_name (by decide)) (Nat.le_of_ble_eq_true rfl) ⟨rfl, rfl⟩ ?_
  intro p e s m args below meth c Q hx hb hr hlocks hml hown hts hK hsz hQ hH hA ls hl
  subst hsz
  have hl : lv_has ls 3 [(0, .int (zI p0)), (1, .int (zI p1)), (2, .int (zI p2))] := hl
  have hbg : σ0 = σ0 := rfl
  unfold f_X7_steps at hf
  refine lv_iload_n hx hb dX7_steps_0 rfl (lv_at hl 0 rfl) ?_
  obtain ⟨r1, k2, hf⟩ := zb1_some hf
  refine zcSi (As := [.int (zI p0)]) (rest := []) hx hb hml hown hts hl.1 hK hH hA (c_X7_size hI hN   k2) zk_t5_59 zk_t5_60 zk_t1_6 zk_t5_61 hd_X7_size rfl ⟨rfl, rfl, Nat.le_of_ble_eq_true rfl, Nat.le_of_ble_eq_true rfl⟩ ⟨Nat.zero_le _, Nat.zero_le _⟩ rfl (Nat.le_of_ble_eq_true rfl) dX7_steps_1 (fun q4 σ3 Hσ3 lσ3 hp hH => ?_)
  obtain ⟨hr1, hs1⟩ := hp; subst hr1; rw [hs1] at hH
  refine lv_iload_n hx hb dX7_steps_4 rfl (lv_at hl 1 rfl) ?_
  obtain ⟨r5, k6, hf⟩ := zb1_some hf
  refine zcSi (As := [.int (zI p1)]) (rest := [.int (zI r1)]) hx hb hml hown hts hl.1 hK hH hA (c_X7_size hI hN   k6) zk_t5_59 zk_t5_60 zk_t1_6 zk_t5_61 hd_X7_size rfl ⟨rfl, rfl, Nat.le_of_ble_eq_true rfl, Nat.le_of_ble_eq_true rfl⟩ ⟨Nat.zero_le _, Nat.zero_le _⟩ rfl (Nat.le_of_ble_eq_true rfl) dX7_steps_5 (fun q8 σ7 Hσ7 lσ7 hp hH => ?_)
  obtain ⟨hr1, hs1⟩ := hp; subst hr1; rw [hs1] at hH
  obtain ⟨r9, k10, hf⟩ := zb1_some hf
  refine zcSi (As := [.int (zI r1), .int (zI r5)]) (rest := []) hx hb hml hown hts hl.1 hK hH hA (c_X7_greater hI hN   k10) zk_t5_62 zk_t5_63 zk_t1_6 zk_t5_64 hd_X7_greater rfl ⟨rfl, rfl, Nat.le_of_ble_eq_true rfl, Nat.le_of_ble_eq_true rfl⟩ ⟨Nat.zero_le _, Nat.zero_le _⟩ rfl (Nat.le_of_ble_eq_true rfl) dX7_steps_8 (fun q12 σ11 Hσ11 lσ11 hp hH => ?_)
  obtain ⟨hr1, hs1⟩ := hp; subst hr1; rw [hs1] at hH
  refine lv_iload_n hx hb dX7_steps_11 rfl (lv_at hl 2 rfl) ?_
  refine lz_iadd hx hb dX7_steps_12 ?_
  refine lv_iconst (v := zI 1) hx hb dX7_steps_13 (by decide +kernel) ?_
  refine lz_isub hx hb dX7_steps_14 ?_
  refine lv_iload_n hx hb dX7_steps_15 rfl (lv_at hl 2 rfl) ?_
  obtain ⟨k13, hf⟩ := zck_some hf
  refine lz_idiv hx hb k13 dX7_steps_16 ?_
  cases hf
  exact zreti hx hb hr hlocks hQ hH ⟨rfl, hbg⟩ dX7_steps_17
abbrev rmX7_underlays : Room := { frames := 2, cells := 0, slots := 0, locals := 43 }
theorem hd_X7_underlays : yX7_underlays.cls = RX7 ∧ yX7_underlays.cls ≠ "java/lang/invoke/MethodHandle" ∧ yX7_underlays.cls ≠ "java/lang/invoke/VarHandle" ∧ (parseMethodDescriptor yX7_underlays.desc).map (fun d => d.parameters.length) = some 1 := by decide +kernel
set_option maxHeartbeats 4000000 in
set_option maxRecDepth 100000 in
theorem c_X7_underlays {l : Launch} {D : va_G} {cI cZ cF cL cD : ClassId} {ad : Nat → Nat} {N : Nat} (hI : ∀ i j, i < N → j < N → ad i = ad j → i = j) (hN : 46 ≤ N) {σ0 : Nat → va_E} {sz : Nat} {mo_fields : Int} {mo_corners : Int → Int} {mo_cornerX : Int → Int} {mo_cornerY : Int → Int} {mo_longest : Int → Int} {mo_bound : Int} {mo_pointX : Int → Int} {mo_pointY : Int → Int} {mo_points : Int} {mo_crossings : Int} {mo_isKnown : Int} {mo_commands : Int} {mo_needleX : Int} {mo_needleY : Int} {mo_hasFile : Int} {mo_format : Int} {mo_length : Int} {mo_heads : Int} {mo_late : Int} {mo_ran : Int} {mo_program : Int} {mo_thrown : Int} {mo_rowY : Int} {mo_stitches : Int} {p1 : Int} {R_mo_pointX : Int → Int} {R_mo_pointY : Int → Int} {R_mo_points : Int} (h_mo : σ0 19 = oC_mo ad mo_fields mo_bound mo_points mo_crossings mo_isKnown mo_commands mo_needleX mo_needleY mo_hasFile mo_format mo_length mo_heads mo_late mo_ran mo_program mo_thrown mo_rowY mo_stitches) (h_mo_corners : σ0 23 = .inl (cI, 8, .inl (zA mo_corners))) (h_mo_cornerX : σ0 24 = .inl (cI, 64, .inl (zA mo_cornerX))) (h_mo_cornerY : σ0 25 = .inl (cI, 64, .inl (zA mo_cornerY))) (h_mo_longest : σ0 27 = .inl (cI, 8, .inl (zA mo_longest))) (h_mo_pointX : σ0 31 = .inl (cI, 4096, .inl (zA mo_pointX))) (h_mo_pointY : σ0 32 = .inl (cI, 4096, .inl (zA mo_pointY))) (hf : f_X7_underlays mo_corners mo_cornerX mo_cornerY mo_longest mo_pointX mo_pointY mo_points p1 = some (R_mo_pointX, R_mo_pointY, R_mo_points)) :
    Met l yX7_underlays (Cond.code yX7_underlays cX7_underlays 10 none :: wsL_law) rmX7_underlays (zPre D ad N (zT cI cZ cF cL cD) σ0 sz [.ref (ad 19), .int (zI p1)]) (zQv D ad N sz (fun σ' => σ' 19 = oC_mo ad mo_fields mo_bound R_mo_points mo_crossings mo_isKnown mo_commands mo_needleX mo_needleY mo_hasFile mo_format mo_length mo_heads mo_late mo_ran mo_program mo_thrown mo_rowY mo_stitches ∧ σ' 31 = .inl (cI, 4096, .inl (zA R_mo_pointX)) ∧ σ' 32 = .inl (cI, 4096, .inl (zA R_mo_pointY)) ∧ ∀ i : Nat, i ≠ 19 → i ≠ 31 → i ≠ 32 → σ' i = σ0 i)) 0 0 (zFr ad N sz) := by
  refine zMet hI (plainFor_of_name (by decide)) (Nat.le_of_ble_eq_true rfl) ⟨rfl, rfl⟩ ?_
  intro p e s m args below meth c Q hx hb hr hlocks hml hown hts hK hsz hQ hH hA ls hl
  subst hsz
  have hk_mo : 19 < N := by omega
  have hk_mo_corners : 23 < N := by omega
  have hk_mo_cornerX : 24 < N := by omega
  have hk_mo_cornerY : 25 < N := by omega
  have hk_mo_longest : 27 < N := by omega
  have hk_mo_pointX : 31 < N := by omega
  have hk_mo_pointY : 32 < N := by omega
  have hl : lv_has ls 10 [(0, .ref (ad 19)), (1, .int (zI p1))] := hl
  have hbg : ∀ i : Nat, i ≠ 19 → i ≠ 31 → i ≠ 32 → σ0 i = σ0 i := fun _ _ _ _ => rfl
  have L23 : ∀ (x1 : Int) (x2 : Int)  (n : Nat) (x3 : Int) (mo_pointX : Int → Int) (mo_pointY : Int → Int) (mo_points : Int) (x3' : Int) (mo_pointX' : Int → Int) (mo_pointY' : Int → Int) (mo_points' : Int), zlp (fun z => f_X7_underlays_L23 mo_corners mo_cornerX mo_cornerY mo_longest x1 x2 z.1 z.2.1 z.2.2.1 z.2.2.2) n (x3, mo_pointX, mo_pointY, mo_points) = some (x3', mo_pointX', mo_pointY', mo_points') → ∀ (σ : Nat → va_E) (H : Heap) (locs : List Loc) (hH : zH D ad N (zFr ad N s.heap.size) s.heap σ H locs) (h_mo : σ 19 = oC_mo ad mo_fields mo_bound mo_points mo_crossings mo_isKnown mo_commands mo_needleX mo_needleY mo_hasFile mo_format mo_length mo_heads mo_late mo_ran mo_program mo_thrown mo_rowY mo_stitches) (h_mo_corners : σ 23 = .inl (cI, 8, .inl (zA mo_corners))) (h_mo_cornerX : σ 24 = .inl (cI, 64, .inl (zA mo_cornerX))) (h_mo_cornerY : σ 25 = .inl (cI, 64, .inl (zA mo_cornerY))) (h_mo_longest : σ 27 = .inl (cI, 8, .inl (zA mo_longest))) (h_mo_pointX : σ 31 = .inl (cI, 4096, .inl (zA mo_pointX))) (h_mo_pointY : σ 32 = .inl (cI, 4096, .inl (zA mo_pointY))) (hbg : ∀ i : Nat, i ≠ 19 → i ≠ 31 → i ≠ 32 → σ i = σ0 i) (ls : Array Slot) (hl : lv_has ls 10 [(0, .ref (ad 19)), (1, .int (zI x1)), (2, .int (zI x2)), (3, .int (zI x3))]), (∀ (σ : Nat → va_E) (H : Heap) (locs : List Loc) (hH : zH D ad N (zFr ad N s.heap.size) s.heap σ H locs) (h_mo : σ 19 = oC_mo ad mo_fields mo_bound (mo_points') mo_crossings mo_isKnown mo_commands mo_needleX mo_needleY mo_hasFile mo_format mo_length mo_heads mo_late mo_ran mo_program mo_thrown mo_rowY mo_stitches) (h_mo_corners : σ 23 = .inl (cI, 8, .inl (zA mo_corners))) (h_mo_cornerX : σ 24 = .inl (cI, 64, .inl (zA mo_cornerX))) (h_mo_cornerY : σ 25 = .inl (cI, 64, .inl (zA mo_cornerY))) (h_mo_longest : σ 27 = .inl (cI, 8, .inl (zA mo_longest))) (h_mo_pointX : σ 31 = .inl (cI, 4096, .inl (zA (mo_pointX')))) (h_mo_pointY : σ 32 = .inl (cI, 4096, .inl (zA (mo_pointY')))) (hbg : ∀ i : Nat, i ≠ 19 → i ≠ 31 → i ≠ 32 → σ i = σ0 i) (ls : Array Slot) (hl : lv_has ls 10 []), W p l e rmX7_underlays s m args below meth c H locs 0 0 Q (F0 m 163 ls [])) → W p l e rmX7_underlays s m args below meth c H locs 0 0 Q (F0 m 23 ls []) := by
    intro x1 x2 n
    induction n with
    | zero => intro x3 mo_pointX mo_pointY mo_points x3' mo_pointX' mo_pointY' mo_points' hz; exact (zlp_0 hz).elim
    | succ n ih =>
      intro x3 mo_pointX mo_pointY mo_points x3' mo_pointX' mo_pointY' mo_points' hz σ H locs hH h_mo h_mo_corners h_mo_cornerX h_mo_cornerY h_mo_longest h_mo_pointX h_mo_pointY hbg ls hl kx
      obtain ⟨nx, hf, hnx⟩ := zlp_some hz
      have hf : f_X7_underlays_L23 mo_corners mo_cornerX mo_cornerY mo_longest x1 x2 x3 mo_pointX mo_pointY mo_points = some nx := hf
      have L104 : ∀ (x1 : Int) (x2 : Int) (x3 : Int) (x4 : Int) (x6 : Int) (x7 : Int) (x8 : Int)  (n : Nat) (x9 : Int) (mo_pointX : Int → Int) (mo_pointY : Int → Int) (mo_points : Int) (x9' : Int) (mo_pointX' : Int → Int) (mo_pointY' : Int → Int) (mo_points' : Int), zlp (fun z => f_X7_underlays_L104 mo_corners mo_cornerX mo_cornerY mo_longest x1 x2 x3 x4 x6 x7 x8 z.1 z.2.1 z.2.2.1 z.2.2.2) n (x9, mo_pointX, mo_pointY, mo_points) = some (x9', mo_pointX', mo_pointY', mo_points') → ∀ (σ : Nat → va_E) (H : Heap) (locs : List Loc) (hH : zH D ad N (zFr ad N s.heap.size) s.heap σ H locs) (h_mo : σ 19 = oC_mo ad mo_fields mo_bound mo_points mo_crossings mo_isKnown mo_commands mo_needleX mo_needleY mo_hasFile mo_format mo_length mo_heads mo_late mo_ran mo_program mo_thrown mo_rowY mo_stitches) (h_mo_corners : σ 23 = .inl (cI, 8, .inl (zA mo_corners))) (h_mo_cornerX : σ 24 = .inl (cI, 64, .inl (zA mo_cornerX))) (h_mo_cornerY : σ 25 = .inl (cI, 64, .inl (zA mo_cornerY))) (h_mo_longest : σ 27 = .inl (cI, 8, .inl (zA mo_longest))) (h_mo_pointX : σ 31 = .inl (cI, 4096, .inl (zA mo_pointX))) (h_mo_pointY : σ 32 = .inl (cI, 4096, .inl (zA mo_pointY))) (hbg : ∀ i : Nat, i ≠ 19 → i ≠ 31 → i ≠ 32 → σ i = σ0 i) (ls : Array Slot) (hl : lv_has ls 10 [(0, .ref (ad 19)), (1, .int (zI x1)), (2, .int (zI x2)), (3, .int (zI x3)), (4, .int (zI x4)), (6, .int (zI x6)), (7, .int (zI x7)), (8, .int (zI x8)), (9, .int (zI x9))]), (∀ (σ : Nat → va_E) (H : Heap) (locs : List Loc) (hH : zH D ad N (zFr ad N s.heap.size) s.heap σ H locs) (h_mo : σ 19 = oC_mo ad mo_fields mo_bound (mo_points') mo_crossings mo_isKnown mo_commands mo_needleX mo_needleY mo_hasFile mo_format mo_length mo_heads mo_late mo_ran mo_program mo_thrown mo_rowY mo_stitches) (h_mo_corners : σ 23 = .inl (cI, 8, .inl (zA mo_corners))) (h_mo_cornerX : σ 24 = .inl (cI, 64, .inl (zA mo_cornerX))) (h_mo_cornerY : σ 25 = .inl (cI, 64, .inl (zA mo_cornerY))) (h_mo_longest : σ 27 = .inl (cI, 8, .inl (zA mo_longest))) (h_mo_pointX : σ 31 = .inl (cI, 4096, .inl (zA (mo_pointX')))) (h_mo_pointY : σ 32 = .inl (cI, 4096, .inl (zA (mo_pointY')))) (hbg : ∀ i : Nat, i ≠ 19 → i ≠ 31 → i ≠ 32 → σ i = σ0 i) (ls : Array Slot) (hl : lv_has ls 10 [(0, .ref (ad 19)), (1, .int (zI x1)), (2, .int (zI x2)), (3, .int (zI x3))]), W p l e rmX7_underlays s m args below meth c H locs 0 0 Q (F0 m 157 ls [])) → W p l e rmX7_underlays s m args below meth c H locs 0 0 Q (F0 m 104 ls []) := by
        intro x1 x2 x3 x4 x6 x7 x8 n
        induction n with
        | zero => intro x9 mo_pointX mo_pointY mo_points x9' mo_pointX' mo_pointY' mo_points' hz; exact (zlp_0 hz).elim
        | succ n ih =>
          intro x9 mo_pointX mo_pointY mo_points x9' mo_pointX' mo_pointY' mo_points' hz σ H locs hH h_mo h_mo_corners h_mo_cornerX h_mo_cornerY h_mo_longest h_mo_pointX h_mo_pointY hbg ls hl kx
          obtain ⟨nx, hf, hnx⟩ := zlp_some hz
          have hf : f_X7_underlays_L104 mo_corners mo_cornerX mo_cornerY mo_longest x1 x2 x3 x4 x6 x7 x8 x9 mo_pointX mo_pointY mo_points = some nx := hf
          unfold f_X7_underlays_L104 at hf
          refine lv_iload hx hb dX7_underlays_104 (lv_at hl 8 rfl) ?_
          refine lv_iload hx hb dX7_underlays_106 (lv_at hl 7 rfl) ?_
          obtain ⟨k1, hf⟩ := zck_some hf
          refine lz_icmp_gt (tgt := 157) hx hb k1 dX7_underlays_108 (by decide) (fun c2 => ?_) (fun c2 => ?_)
          · replace hf := (if_pos c2).symm.trans hf
            cases hf
            cases hnx
            exact kx _ _ _ hH h_mo h_mo_corners h_mo_cornerX h_mo_cornerY h_mo_longest h_mo_pointX h_mo_pointY hbg _ (lv_sub hl [0, 1, 2, 3] rfl)
          · replace hf := (if_neg c2).symm.trans hf
            refine lv_aload_n hx hb dX7_underlays_111 rfl (lv_at hl 0 rfl) ?_
            refine lv_aload_n hx hb dX7_underlays_112 rfl (lv_at hl 0 rfl) ?_
            refine zget hx hb inlX7 rfl 5 rfl zk_t4_118 hts hown hK hH hk_mo h_mo rfl dX7_underlays_113 ?_
            refine lv_iload hx hb dX7_underlays_116 (lv_at hl 4 rfl) ?_
            obtain ⟨k3, hf⟩ := zck_some hf
            refine ziald hx hb hK hH hk_mo_cornerX 0 h_mo_cornerX rfl k3 rfl dX7_underlays_118 ?_
            refine lv_iload hx hb dX7_underlays_119 (lv_at hl 5 rfl) ?_
            refine lv_iload hx hb dX7_underlays_121 (lv_at hl 8 rfl) ?_
            refine lz_imul hx hb dX7_underlays_123 ?_
            refine lv_iload hx hb dX7_underlays_124 (lv_at hl 7 rfl) ?_
            obtain ⟨r4, k5, hf⟩ := zb1_some hf
            refine zcSi (As := [.int (zI (x6 * x9)), .int (zI x8)]) (rest := [.int (zI (mo_cornerX x4)), .ref (ad 19)]) hx hb hml hown hts hl.1 hK hH hA (c_X7_down hI hN   k5) zk_t5_65 zk_t5_66 zk_t1_6 zk_t5_67 hd_X7_down rfl ⟨rfl, rfl, Nat.le_of_ble_eq_true rfl, Nat.le_of_ble_eq_true rfl⟩ ⟨Nat.zero_le _, Nat.zero_le _⟩ rfl (Nat.le_of_ble_eq_true rfl) dX7_underlays_126 (fun q7 σ6 Hσ6 lσ6 hp hH => ?_)
            obtain ⟨hr1, hs1⟩ := hp; subst hr1; rw [hs1] at hH
            refine lz_iadd hx hb dX7_underlays_129 ?_
            refine lv_aload_n hx hb dX7_underlays_130 rfl (lv_at hl 0 rfl) ?_
            refine zget hx hb inlX7 rfl 6 rfl zk_t4_119 hts hown hK hH hk_mo h_mo rfl dX7_underlays_131 ?_
            refine lv_iload hx hb dX7_underlays_134 (lv_at hl 4 rfl) ?_
            obtain ⟨k8, hf⟩ := zck_some hf
            refine ziald hx hb hK hH hk_mo_cornerY 0 h_mo_cornerY rfl k8 rfl dX7_underlays_136 ?_
            refine lv_iload hx hb dX7_underlays_137 (lv_at hl 6 rfl) ?_
            refine lv_iload hx hb dX7_underlays_139 (lv_at hl 8 rfl) ?_
            refine lz_imul hx hb dX7_underlays_141 ?_
            refine lv_iload hx hb dX7_underlays_142 (lv_at hl 7 rfl) ?_
            obtain ⟨r9, k10, hf⟩ := zb1_some hf
            refine zcSi (As := [.int (zI (x7 * x9)), .int (zI x8)]) (rest := [.int (zI (mo_cornerY x4)), .int (zI ((mo_cornerX x4) + r4)), .ref (ad 19)]) hx hb hml hown hts hl.1 hK hH hA (c_X7_down hI hN   k10) zk_t5_65 zk_t5_66 zk_t1_6 zk_t5_67 hd_X7_down rfl ⟨rfl, rfl, Nat.le_of_ble_eq_true rfl, Nat.le_of_ble_eq_true rfl⟩ ⟨Nat.zero_le _, Nat.zero_le _⟩ rfl (Nat.le_of_ble_eq_true rfl) dX7_underlays_144 (fun q12 σ11 Hσ11 lσ11 hp hH => ?_)
            obtain ⟨hr1, hs1⟩ := hp; subst hr1; rw [hs1] at hH
            refine lz_iadd hx hb dX7_underlays_147 ?_
            obtain ⟨a13, a14, u15, k16, hf⟩ := zb3_some hf
            refine zcVv (C := RX7) (As := [.int (zI ((mo_cornerX x4) + r4)), .int (zI ((mo_cornerY x4) + r9))]) (rest := []) hx hb hml hown hts hl.1 hK hH hA (c_X7_point hI hN  h_mo h_mo_pointX h_mo_pointY k16) zk_t5_68 zk_t5_70 zk_s3_4 zk_t1_6 zk_t5_71 hd_X7_point rfl ⟨rfl, rfl, Nat.le_of_ble_eq_true rfl, Nat.le_of_ble_eq_true rfl⟩ ⟨Nat.zero_le _, Nat.zero_le _⟩ hk_mo h_mo rfl rfl rfl (Nat.le_of_ble_eq_true rfl) dX7_underlays_148 (fun σ17 Hσ17 lσ17 hp hH => ?_)
            obtain ⟨h_mo, h_mo_pointX, h_mo_pointY, hn⟩ := hp
            have h_mo_corners := (hn 23 (by decide) (by decide) (by decide)).trans h_mo_corners
            have h_mo_cornerX := (hn 24 (by decide) (by decide) (by decide)).trans h_mo_cornerX
            have h_mo_cornerY := (hn 25 (by decide) (by decide) (by decide)).trans h_mo_cornerY
            have h_mo_longest := (hn 27 (by decide) (by decide) (by decide)).trans h_mo_longest
            have hbg : ∀ i : Nat, i ≠ 19 → i ≠ 31 → i ≠ 32 → σ17 i = σ0 i := fun i a0 a1 a2 => (hn i a0 a1 a2).trans (hbg i a0 a1 a2)
            refine lz_iinc (lv' := [(9, .int (zI (x9 + 1))), (0, .ref (ad 19)), (1, .int (zI x1)), (2, .int (zI x2)), (3, .int (zI x3)), (4, .int (zI x4)), (6, .int (zI x6)), (7, .int (zI x7)), (8, .int (zI x8))]) hx hb dX7_underlays_151 hl (j := 8) rfl (by decide) rfl (fun ls hl => ?_)
            refine lv_goto (tgt := 104) hx hb dX7_underlays_154 (by decide) ?_
            cases hf
            exact ih (x9 + 1) a13 a14 u15 _ _ _ _ hnx _ _ _ hH h_mo h_mo_corners h_mo_cornerX h_mo_cornerY h_mo_longest h_mo_pointX h_mo_pointY hbg _ (lv_sub hl [1, 2, 3, 4, 5, 6, 7, 8, 0] rfl) kx
      unfold f_X7_underlays_L23 at hf
      refine lv_iload_n hx hb dX7_underlays_23 rfl (lv_at hl 3 rfl) ?_
      refine lv_aload_n hx hb dX7_underlays_24 rfl (lv_at hl 0 rfl) ?_
      refine zget hx hb inlX7 rfl 4 rfl zk_t4_117 hts hown hK hH hk_mo h_mo rfl dX7_underlays_25 ?_
      refine lv_iload_n hx hb dX7_underlays_28 rfl (lv_at hl 1 rfl) ?_
      obtain ⟨k18, hf⟩ := zck_some hf
      refine ziald hx hb hK hH hk_mo_corners 0 h_mo_corners rfl k18 rfl dX7_underlays_29 ?_
      obtain ⟨k19, hf⟩ := zck_some hf
      refine lz_icmp_ge (tgt := 163) hx hb k19 dX7_underlays_30 (by decide) (fun c20 => ?_) (fun c20 => ?_)
      · replace hf := (if_pos c20).symm.trans hf
        cases hf
        cases hnx
        exact kx _ _ _ hH h_mo h_mo_corners h_mo_cornerX h_mo_cornerY h_mo_longest h_mo_pointX h_mo_pointY hbg _ (lv_sub hl [] rfl)
      · replace hf := (if_neg c20).symm.trans hf
        refine lv_iload_n hx hb dX7_underlays_33 rfl (lv_at hl 2 rfl) ?_
        refine lv_iload_n hx hb dX7_underlays_34 rfl (lv_at hl 3 rfl) ?_
        refine lz_iadd hx hb dX7_underlays_35 ?_
        obtain ⟨v21, ev21, hf⟩ := zlt_some hf
        refine lz_nm ev21 ?_
        refine lv_istore (lv' := [(4, .int (zI v21)), (0, .ref (ad 19)), (1, .int (zI x1)), (2, .int (zI x2)), (3, .int (zI x3))]) hx hb dX7_underlays_36 hl (by decide) rfl (fun ls hl => ?_)
        refine lv_iload_n hx hb dX7_underlays_38 rfl (lv_at hl 3 rfl) ?_
        refine lv_iload_n hx hb dX7_underlays_39 rfl (lv_at hl 4 rfl) ?_
        refine lv_iconst (v := zI 1) hx hb dX7_underlays_40 (by decide +kernel) ?_
        refine lz_iadd hx hb dX7_underlays_41 ?_
        refine lv_aload_n hx hb dX7_underlays_42 rfl (lv_at hl 1 rfl) ?_
        refine zget hx hb inlX7 rfl 4 rfl zk_t4_117 hts hown hK hH hk_mo h_mo rfl dX7_underlays_43 ?_
        refine lv_iload_n hx hb dX7_underlays_46 rfl (lv_at hl 2 rfl) ?_
        obtain ⟨k22, hf⟩ := zck_some hf
        refine ziald hx hb hK hH hk_mo_corners 0 h_mo_corners rfl k22 rfl dX7_underlays_47 ?_
        obtain ⟨k23, hf⟩ := zck_some hf
        refine lz_irem hx hb k23 dX7_underlays_48 ?_
        refine lz_iadd hx hb dX7_underlays_49 ?_
        obtain ⟨v24, ev24, hf⟩ := zlt_some hf
        refine lz_nm ev24 ?_
        refine lv_istore (lv' := [(5, .int (zI v24)), (4, .int (zI v21)), (0, .ref (ad 19)), (1, .int (zI x1)), (2, .int (zI x2)), (3, .int (zI x3))]) hx hb dX7_underlays_50 hl (by decide) rfl (fun ls hl => ?_)
        refine lv_aload_n hx hb dX7_underlays_52 rfl (lv_at hl 2 rfl) ?_
        refine zget hx hb inlX7 rfl 5 rfl zk_t4_118 hts hown hK hH hk_mo h_mo rfl dX7_underlays_53 ?_
        refine lv_iload hx hb dX7_underlays_56 (lv_at hl 0 rfl) ?_
        obtain ⟨k25, hf⟩ := zck_some hf
        refine ziald hx hb hK hH hk_mo_cornerX 0 h_mo_cornerX rfl k25 rfl dX7_underlays_58 ?_
        refine lv_aload_n hx hb dX7_underlays_59 rfl (lv_at hl 2 rfl) ?_
        refine zget hx hb inlX7 rfl 5 rfl zk_t4_118 hts hown hK hH hk_mo h_mo rfl dX7_underlays_60 ?_
        refine lv_iload hx hb dX7_underlays_63 (lv_at hl 1 rfl) ?_
        obtain ⟨k26, hf⟩ := zck_some hf
        refine ziald hx hb hK hH hk_mo_cornerX 0 h_mo_cornerX rfl k26 rfl dX7_underlays_65 ?_
        refine lz_isub hx hb dX7_underlays_66 ?_
        obtain ⟨v27, ev27, hf⟩ := zlt_some hf
        refine lz_nm ev27 ?_
        refine lv_istore (lv' := [(6, .int (zI v27)), (5, .int (zI v24)), (4, .int (zI v21)), (0, .ref (ad 19)), (1, .int (zI x1)), (2, .int (zI x2)), (3, .int (zI x3))]) hx hb dX7_underlays_67 hl (by decide) rfl (fun ls hl => ?_)
        refine lv_aload_n hx hb dX7_underlays_69 rfl (lv_at hl 3 rfl) ?_
        refine zget hx hb inlX7 rfl 6 rfl zk_t4_119 hts hown hK hH hk_mo h_mo rfl dX7_underlays_70 ?_
        refine lv_iload hx hb dX7_underlays_73 (lv_at hl 1 rfl) ?_
        obtain ⟨k28, hf⟩ := zck_some hf
        refine ziald hx hb hK hH hk_mo_cornerY 0 h_mo_cornerY rfl k28 rfl dX7_underlays_75 ?_
        refine lv_aload_n hx hb dX7_underlays_76 rfl (lv_at hl 3 rfl) ?_
        refine zget hx hb inlX7 rfl 6 rfl zk_t4_119 hts hown hK hH hk_mo h_mo rfl dX7_underlays_77 ?_
        refine lv_iload hx hb dX7_underlays_80 (lv_at hl 2 rfl) ?_
        obtain ⟨k29, hf⟩ := zck_some hf
        refine ziald hx hb hK hH hk_mo_cornerY 0 h_mo_cornerY rfl k29 rfl dX7_underlays_82 ?_
        refine lz_isub hx hb dX7_underlays_83 ?_
        obtain ⟨v30, ev30, hf⟩ := zlt_some hf
        refine lz_nm ev30 ?_
        refine lv_istore (lv' := [(7, .int (zI v30)), (6, .int (zI v27)), (5, .int (zI v24)), (4, .int (zI v21)), (0, .ref (ad 19)), (1, .int (zI x1)), (2, .int (zI x2)), (3, .int (zI x3))]) hx hb dX7_underlays_84 hl (by decide) rfl (fun ls hl => ?_)
        refine lv_iload hx hb dX7_underlays_86 (lv_at hl 1 rfl) ?_
        refine lv_iload hx hb dX7_underlays_88 (lv_at hl 0 rfl) ?_
        refine lv_aload_n hx hb dX7_underlays_90 rfl (lv_at hl 4 rfl) ?_
        refine zget hx hb inlX7 rfl 8 rfl zk_t4_121 hts hown hK hH hk_mo h_mo rfl dX7_underlays_91 ?_
        refine lv_iload_n hx hb dX7_underlays_94 rfl (lv_at hl 5 rfl) ?_
        obtain ⟨k31, hf⟩ := zck_some hf
        refine ziald hx hb hK hH hk_mo_longest 0 h_mo_longest rfl k31 rfl dX7_underlays_95 ?_
        obtain ⟨r32, k33, hf⟩ := zb1_some hf
        refine zcSi (As := [.int (zI v27), .int (zI v30), .int (zI (mo_longest x1))]) (rest := []) hx hb hml hown hts hl.1 hK hH hA (c_X7_steps hI hN   k33) zk_t5_76 zk_t5_77 zk_t1_6 zk_t5_78 hd_X7_steps rfl ⟨rfl, rfl, Nat.le_of_ble_eq_true rfl, Nat.le_of_ble_eq_true rfl⟩ ⟨Nat.zero_le _, Nat.zero_le _⟩ rfl (Nat.le_of_ble_eq_true rfl) dX7_underlays_96 (fun q35 σ34 Hσ34 lσ34 hp hH => ?_)
        obtain ⟨hr1, hs1⟩ := hp; subst hr1; rw [hs1] at hH
        refine lv_istore (lv' := [(8, .int (zI r32)), (7, .int (zI v30)), (6, .int (zI v27)), (5, .int (zI v24)), (4, .int (zI v21)), (0, .ref (ad 19)), (1, .int (zI x1)), (2, .int (zI x2)), (3, .int (zI x3))]) hx hb dX7_underlays_99 hl (by decide) rfl (fun ls hl => ?_)
        refine lv_iconst (v := zI 1) hx hb dX7_underlays_101 (by decide +kernel) ?_
        refine lv_istore (lv' := [(9, .int (zI 1)), (8, .int (zI r32)), (7, .int (zI v30)), (6, .int (zI v27)), (5, .int (zI v24)), (4, .int (zI v21)), (0, .ref (ad 19)), (1, .int (zI x1)), (2, .int (zI x2)), (3, .int (zI x3))]) hx hb dX7_underlays_102 hl (by decide) rfl (fun ls hl => ?_)
        obtain ⟨w37, w38, w39, w40, k36, hf⟩ := zb4_some hf
        refine L104 x1 x2 x3 v21 v27 v30 r32 zFU 1 mo_pointX mo_pointY mo_points w37 w38 w39 w40 k36 _ _ _ hH h_mo h_mo_corners h_mo_cornerX h_mo_cornerY h_mo_longest h_mo_pointX h_mo_pointY hbg _ (lv_sub hl [6, 7, 8, 9, 5, 3, 2, 1, 0] rfl) (fun σ41 Hσ41 lσ41 hH h_mo h_mo_corners h_mo_cornerX h_mo_cornerY h_mo_longest h_mo_pointX h_mo_pointY hbg ls hl => ?_)
        refine lz_iinc (lv' := [(3, .int (zI (x3 + 1))), (0, .ref (ad 19)), (1, .int (zI x1)), (2, .int (zI x2))]) hx hb dX7_underlays_157 hl (j := 3) rfl (by decide) rfl (fun ls hl => ?_)
        refine lv_goto (tgt := 23) hx hb dX7_underlays_160 (by decide) ?_
        cases hf
        exact ih (x3 + 1) w38 w39 w40 _ _ _ _ hnx _ _ _ hH h_mo h_mo_corners h_mo_cornerX h_mo_cornerY h_mo_longest h_mo_pointX h_mo_pointY hbg _ (lv_sub hl [1, 2, 3, 0] rfl) kx
  unfold f_X7_underlays at hf
  refine lv_bipush (v := zI 8) hx hb dX7_underlays_0 (by decide +kernel) ?_
  refine lv_iload_n hx hb dX7_underlays_2 rfl (lv_at hl 1 rfl) ?_
  refine lz_imul hx hb dX7_underlays_3 ?_
  obtain ⟨v42, ev42, hf⟩ := zlt_some hf
  refine lz_nm ev42 ?_
  refine lv_istore_n (lv' := [(2, .int (zI v42)), (0, .ref (ad 19)), (1, .int (zI p1))]) hx hb dX7_underlays_4 rfl hl (by decide) rfl (fun ls hl => ?_)
  refine lv_aload_n hx hb dX7_underlays_5 rfl (lv_at hl 1 rfl) ?_
  refine lv_aload_n hx hb dX7_underlays_6 rfl (lv_at hl 1 rfl) ?_
  refine zget hx hb inlX7 rfl 5 rfl zk_t4_118 hts hown hK hH hk_mo h_mo rfl dX7_underlays_7 ?_
  refine lv_iload_n hx hb dX7_underlays_10 rfl (lv_at hl 0 rfl) ?_
  obtain ⟨k43, hf⟩ := zck_some hf
  refine ziald hx hb hK hH hk_mo_cornerX 0 h_mo_cornerX rfl k43 rfl dX7_underlays_11 ?_
  refine lv_aload_n hx hb dX7_underlays_12 rfl (lv_at hl 1 rfl) ?_
  refine zget hx hb inlX7 rfl 6 rfl zk_t4_119 hts hown hK hH hk_mo h_mo rfl dX7_underlays_13 ?_
  refine lv_iload_n hx hb dX7_underlays_16 rfl (lv_at hl 0 rfl) ?_
  obtain ⟨k44, hf⟩ := zck_some hf
  refine ziald hx hb hK hH hk_mo_cornerY 0 h_mo_cornerY rfl k44 rfl dX7_underlays_17 ?_
  obtain ⟨a45, a46, u47, k48, hf⟩ := zb3_some hf
  refine zcVv (C := RX7) (As := [.int (zI (mo_cornerX v42)), .int (zI (mo_cornerY v42))]) (rest := []) hx hb hml hown hts hl.1 hK hH hA (c_X7_point hI hN  h_mo h_mo_pointX h_mo_pointY k48) zk_t5_68 zk_t5_70 zk_s3_4 zk_t1_6 zk_t5_71 hd_X7_point rfl ⟨rfl, rfl, Nat.le_of_ble_eq_true rfl, Nat.le_of_ble_eq_true rfl⟩ ⟨Nat.zero_le _, Nat.zero_le _⟩ hk_mo h_mo rfl rfl rfl (Nat.le_of_ble_eq_true rfl) dX7_underlays_18 (fun σ49 Hσ49 lσ49 hp hH => ?_)
  obtain ⟨h_mo, h_mo_pointX, h_mo_pointY, hn⟩ := hp
  have h_mo_corners := (hn 23 (by decide) (by decide) (by decide)).trans h_mo_corners
  have h_mo_cornerX := (hn 24 (by decide) (by decide) (by decide)).trans h_mo_cornerX
  have h_mo_cornerY := (hn 25 (by decide) (by decide) (by decide)).trans h_mo_cornerY
  have h_mo_longest := (hn 27 (by decide) (by decide) (by decide)).trans h_mo_longest
  have hbg : ∀ i : Nat, i ≠ 19 → i ≠ 31 → i ≠ 32 → σ49 i = σ0 i := fun i a0 a1 a2 => (hn i a0 a1 a2).trans (hbg i a0 a1 a2)
  refine lv_iconst (v := zI 0) hx hb dX7_underlays_21 (by decide +kernel) ?_
  refine lv_istore_n (lv' := [(3, .int (zI 0)), (2, .int (zI v42)), (0, .ref (ad 19)), (1, .int (zI p1))]) hx hb dX7_underlays_22 rfl hl (by decide) rfl (fun ls hl => ?_)
  obtain ⟨w51, w52, w53, w54, k50, hf⟩ := zb4_some hf
  refine L23 p1 v42 zFU 0 a45 a46 u47 w51 w52 w53 w54 k50 _ _ _ hH h_mo h_mo_corners h_mo_cornerX h_mo_cornerY h_mo_longest h_mo_pointX h_mo_pointY hbg _ (lv_sub hl [2, 3, 1, 0] rfl) (fun σ55 Hσ55 lσ55 hH h_mo h_mo_corners h_mo_cornerX h_mo_cornerY h_mo_longest h_mo_pointX h_mo_pointY hbg ls hl => ?_)
  cases hf
  exact zretv hx hb hr hlocks hQ hH ⟨h_mo, h_mo_pointX, h_mo_pointY, hbg⟩ dX7_underlays_163
