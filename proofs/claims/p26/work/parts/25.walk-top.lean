abbrev rmX0_needlePoints : Room := { frames := 4, cells := 0, slots := 0, locals := 93 }
theorem hd_X0_needlePoints : yX0_needlePoints.cls = RX0 ∧ yX0_needlePoints.cls ≠ "java/lang/invoke/MethodHandle" ∧ yX0_needlePoints.cls ≠ "java/lang/invoke/VarHandle" ∧ (parseMethodDescriptor yX0_needlePoints.desc).map (fun d => d.parameters.length) = some 0 := by decide +kernel
set_option maxHeartbeats 4000000 in
set_option maxRecDepth 100000 in
theorem c_X0_needlePoints {l : Launch} {D : va_G} {cI cZ cF cL cD : ClassId} {ad : Nat → Nat} {N : Nat} (hI : ∀ i j, i < N → j < N → ad i = ad j → i = j) (hN : 19 ≤ N) {o : Nat} (ho : 19 ≤ o ∧ o + 7 ≤ N) {σ0 : Nat → va_E} {sz : Nat} {fd_colour : Int} {fd_layer : Int} {fd_column : Int} {fd_cornerXs : Int → Int} {fd_cornerYs : Int → Int} {fd_crossings : Int → Int} {fd_cornerCount : Int} {fd_crossingCount : Int} {fd_density : Int} {fd_length : Int} {fd_shift : Int} {fd_pull : Int} {fd_underlay : Int} {fd_drawn : Int} {pt_xs : Int → Int} {pt_ys : Int → Int} {pt_size : Int} {R_fd_crossings : Int → Int} {R_fd_crossingCount : Int} {R_fd_drawn : Int} {R_pt_xs : Int → Int} {R_pt_ys : Int → Int} {R_pt_size : Int} (h_fd : σ0 o = oC_fd ad o fd_colour fd_layer fd_column fd_cornerCount fd_crossingCount fd_density fd_length fd_shift fd_pull fd_underlay fd_drawn) (h_fd_cornerXs : σ0 (o + 1) = .inl (cI, 8, .inl (zA fd_cornerXs))) (h_fd_cornerYs : σ0 (o + 2) = .inl (cI, 8, .inl (zA fd_cornerYs))) (h_fd_crossings : σ0 (o + 3) = .inl (cI, 8, .inl (zA fd_crossings))) (h_pt : σ0 (o + 4) = oC_pt ad o pt_size) (h_pt_xs : σ0 (o + 5) = .inl (cI, 2078, .inl (zA pt_xs))) (h_pt_ys : σ0 (o + 6) = .inl (cI, 2078, .inl (zA pt_ys))) (hf : f_X0_needlePoints fd_column fd_cornerXs fd_cornerYs fd_crossings fd_cornerCount fd_crossingCount fd_density fd_length fd_shift fd_pull fd_underlay fd_drawn pt_xs pt_ys pt_size = some (R_fd_crossings, R_fd_crossingCount, R_fd_drawn, R_pt_xs, R_pt_ys, R_pt_size)) :
    Met l yX0_needlePoints (Cond.code yX0_needlePoints cX0_needlePoints 1 (some (.object "Stitchpath$Points")) :: wsL_law) rmX0_needlePoints (zPre D ad N (zT cI cZ cF cL cD) σ0 sz [.ref (ad o)]) (zQq D ad N sz (fun r σ' => r = some (ad (o + 4)) ∧ σ' o = oC_fd ad o fd_colour fd_layer fd_column fd_cornerCount R_fd_crossingCount fd_density fd_length fd_shift fd_pull fd_underlay R_fd_drawn ∧ σ' (o + 3) = .inl (cI, 8, .inl (zA R_fd_crossings)) ∧ σ' (o + 4) = oC_pt ad o R_pt_size ∧ σ' (o + 5) = .inl (cI, 2078, .inl (zA R_pt_xs)) ∧ σ' (o + 6) = .inl (cI, 2078, .inl (zA R_pt_ys)) ∧ ∀ i : Nat, i ≠ o → i ≠ (o + 3) → i ≠ (o + 4) → i ≠ (o + 5) → i ≠ (o + 6) → σ' i = σ0 i)) 0 0 (zFr ad N sz) := by
  refine zMet hI (plainFor_of_name (by decide)) (Nat.le_of_ble_eq_true rfl) ⟨rfl, rfl⟩ ?_
  intro p e s m args below meth c Q hx hb hr hlocks hml hown hts hK hsz hQ hH hA ls hl
  subst hsz
  have hk_fd : o < N := by omega
  have hk_fd_cornerXs : (o + 1) < N := by omega
  have hk_fd_cornerYs : (o + 2) < N := by omega
  have hk_fd_crossings : (o + 3) < N := by omega
  have hk_pt : (o + 4) < N := by omega
  have hk_pt_xs : (o + 5) < N := by omega
  have hk_pt_ys : (o + 6) < N := by omega
  have hl : lv_has ls 1 [(0, .ref (ad o))] := hl
  have hbg : ∀ i : Nat, i ≠ o → i ≠ (o + 3) → i ≠ (o + 4) → i ≠ (o + 5) → i ≠ (o + 6) → σ0 i = σ0 i := fun _ _ _ _ _ _ => rfl
  have J57 : ∀ (fd_crossings : Int → Int) (fd_crossingCount : Int) (fd_drawn : Int) (pt_xs : Int → Int) (pt_ys : Int → Int) (pt_size : Int) (σ : Nat → va_E) (H : Heap) (locs : List Loc) (hH : zH D ad N (zFr ad N s.heap.size) s.heap σ H locs) (h_fd : σ o = oC_fd ad o fd_colour fd_layer fd_column fd_cornerCount fd_crossingCount fd_density fd_length fd_shift fd_pull fd_underlay fd_drawn) (h_fd_cornerXs : σ (o + 1) = .inl (cI, 8, .inl (zA fd_cornerXs))) (h_fd_cornerYs : σ (o + 2) = .inl (cI, 8, .inl (zA fd_cornerYs))) (h_fd_crossings : σ (o + 3) = .inl (cI, 8, .inl (zA fd_crossings))) (h_pt : σ (o + 4) = oC_pt ad o pt_size) (h_pt_xs : σ (o + 5) = .inl (cI, 2078, .inl (zA pt_xs))) (h_pt_ys : σ (o + 6) = .inl (cI, 2078, .inl (zA pt_ys))) (hbg : ∀ i : Nat, i ≠ o → i ≠ (o + 3) → i ≠ (o + 4) → i ≠ (o + 5) → i ≠ (o + 6) → σ i = σ0 i) (ls : Array Slot) (hl : lv_has ls 1 [(0, .ref (ad o))]), f_X0_needlePoints_57 fd_column fd_cornerXs fd_cornerYs fd_crossings fd_cornerCount fd_crossingCount fd_density fd_length fd_shift fd_pull fd_underlay fd_drawn pt_xs pt_ys pt_size = some (R_fd_crossings, R_fd_crossingCount, R_fd_drawn, R_pt_xs, R_pt_ys, R_pt_size) → W p l e rmX0_needlePoints s m args below meth c H locs 0 0 Q (F0 m 57 ls []) := by
    intro fd_crossings fd_crossingCount fd_drawn pt_xs pt_ys pt_size σ H locs hH h_fd h_fd_cornerXs h_fd_cornerYs h_fd_crossings h_pt h_pt_xs h_pt_ys hbg ls hl hf
    unfold f_X0_needlePoints_57 at hf
    refine lv_aload_n hx hb dX0_needlePoints_57 rfl (lv_at hl 0 rfl) ?_
    refine lv_iconst (v := zI 1) hx hb dX0_needlePoints_58 (by decide +kernel) ?_
    refine zput hx hb inlX0 tyX0 tyX0_ok nmX0 rfl 14 rfl zk_t3_112 rfl hts hown hK hH hk_fd h_fd (z_nar _ (Or.inr rfl)) (z_fit _ (Or.inr rfl)) rfl dX0_needlePoints_59 (fun σ1 Hσ1 lσ1 h_fd hn hH => ?_)
    have h_fd : σ1 o = oC_fd ad o fd_colour fd_layer fd_column fd_cornerCount fd_crossingCount fd_density fd_length fd_shift fd_pull fd_underlay 1 := h_fd
    have h_fd_cornerXs := (hn (o + 1) (by omega)).trans h_fd_cornerXs
    have h_fd_cornerYs := (hn (o + 2) (by omega)).trans h_fd_cornerYs
    have h_fd_crossings := (hn (o + 3) (by omega)).trans h_fd_crossings
    have h_pt := (hn (o + 4) (by omega)).trans h_pt
    have h_pt_xs := (hn (o + 5) (by omega)).trans h_pt_xs
    have h_pt_ys := (hn (o + 6) (by omega)).trans h_pt_ys
    have hbg : ∀ i : Nat, i ≠ o → i ≠ (o + 3) → i ≠ (o + 4) → i ≠ (o + 5) → i ≠ (o + 6) → σ1 i = σ0 i := fun i a0 a1 a2 a3 a4 => (hn i a0).trans (hbg i a0 a1 a2 a3 a4)
    refine lv_aload_n hx hb dX0_needlePoints_62 rfl (lv_at hl 0 rfl) ?_
    refine zget hx hb inlX0 rfl 6 rfl zk_t3_100 hts hown hK hH hk_fd h_fd rfl dX0_needlePoints_63 ?_
    cases hf
    exact zretq hx hb hr (Or.inl ⟨_, rfl⟩) hlocks hQ hH ⟨rfl, h_fd, h_fd_crossings, h_pt, h_pt_xs, h_pt_ys, hbg⟩ dX0_needlePoints_66
  have J53 : ∀ (fd_crossings : Int → Int) (fd_crossingCount : Int) (fd_drawn : Int) (pt_xs : Int → Int) (pt_ys : Int → Int) (pt_size : Int) (σ : Nat → va_E) (H : Heap) (locs : List Loc) (hH : zH D ad N (zFr ad N s.heap.size) s.heap σ H locs) (h_fd : σ o = oC_fd ad o fd_colour fd_layer fd_column fd_cornerCount fd_crossingCount fd_density fd_length fd_shift fd_pull fd_underlay fd_drawn) (h_fd_cornerXs : σ (o + 1) = .inl (cI, 8, .inl (zA fd_cornerXs))) (h_fd_cornerYs : σ (o + 2) = .inl (cI, 8, .inl (zA fd_cornerYs))) (h_fd_crossings : σ (o + 3) = .inl (cI, 8, .inl (zA fd_crossings))) (h_pt : σ (o + 4) = oC_pt ad o pt_size) (h_pt_xs : σ (o + 5) = .inl (cI, 2078, .inl (zA pt_xs))) (h_pt_ys : σ (o + 6) = .inl (cI, 2078, .inl (zA pt_ys))) (hbg : ∀ i : Nat, i ≠ o → i ≠ (o + 3) → i ≠ (o + 4) → i ≠ (o + 5) → i ≠ (o + 6) → σ i = σ0 i) (ls : Array Slot) (hl : lv_has ls 1 [(0, .ref (ad o))]), f_X0_needlePoints_53 fd_column fd_cornerXs fd_cornerYs fd_crossings fd_cornerCount fd_crossingCount fd_density fd_length fd_shift fd_pull fd_underlay fd_drawn pt_xs pt_ys pt_size = some (R_fd_crossings, R_fd_crossingCount, R_fd_drawn, R_pt_xs, R_pt_ys, R_pt_size) → W p l e rmX0_needlePoints s m args below meth c H locs 0 0 Q (F0 m 53 ls []) := by
    intro fd_crossings fd_crossingCount fd_drawn pt_xs pt_ys pt_size σ H locs hH h_fd h_fd_cornerXs h_fd_cornerYs h_fd_crossings h_pt h_pt_xs h_pt_ys hbg ls hl hf
    unfold f_X0_needlePoints_53 at hf
    refine lv_aload_n hx hb dX0_needlePoints_53 rfl (lv_at hl 0 rfl) ?_
    obtain ⟨a2, u3, a4, a5, u6, k7, hf⟩ := zb5_some hf
    refine zcVv (C := RX0) (As := []) (rest := []) hx hb hml hown hts hl.1 hK hH hA (c_X0_drawRows hI hN ho h_fd h_fd_cornerXs h_fd_cornerYs h_fd_crossings h_pt h_pt_xs h_pt_ys k7) zk_t2_1 zk_t2_3 zk_s1_5 zk_t1_13 zk_t2_4 hd_X0_drawRows rfl ⟨rfl, rfl, Nat.le_of_ble_eq_true rfl, Nat.le_of_ble_eq_true rfl⟩ ⟨Nat.zero_le _, Nat.zero_le _⟩ hk_fd h_fd rfl rfl rfl (Nat.le_of_ble_eq_true rfl) dX0_needlePoints_54 (fun σ8 Hσ8 lσ8 hp hH => ?_)
    obtain ⟨h_fd, h_fd_crossings, h_pt, h_pt_xs, h_pt_ys, hn⟩ := hp
    have h_fd_cornerXs := (hn (o + 1) (by omega) (by omega) (by omega) (by omega) (by omega)).trans h_fd_cornerXs
    have h_fd_cornerYs := (hn (o + 2) (by omega) (by omega) (by omega) (by omega) (by omega)).trans h_fd_cornerYs
    have hbg : ∀ i : Nat, i ≠ o → i ≠ (o + 3) → i ≠ (o + 4) → i ≠ (o + 5) → i ≠ (o + 6) → σ8 i = σ0 i := fun i a0 a1 a2 a3 a4 => (hn i a0 a1 a2 a3 a4).trans (hbg i a0 a1 a2 a3 a4)
    exact J57 a2 u3 fd_drawn a4 a5 u6 _ _ _ hH h_fd h_fd_cornerXs h_fd_cornerYs h_fd_crossings h_pt h_pt_xs h_pt_ys hbg _ (lv_sub hl [0] rfl) hf
  unfold f_X0_needlePoints at hf
  refine lv_aload_n hx hb dX0_needlePoints_0 rfl (lv_at hl 0 rfl) ?_
  refine zget hx hb inlX0 rfl 14 rfl zk_t3_112 hts hown hK hH hk_fd h_fd rfl dX0_needlePoints_1 ?_
  obtain ⟨k9, hf⟩ := zck_some hf
  refine lz_if_eq (tgt := 12) hx hb k9 dX0_needlePoints_4 (by decide) (fun c10 => ?_) (fun c10 => ?_)
  · replace hf := (if_pos c10).symm.trans hf
    refine lv_aload_n hx hb dX0_needlePoints_12 rfl (lv_at hl 0 rfl) ?_
    refine zget hx hb inlX0 rfl 6 rfl zk_t3_100 hts hown hK hH hk_fd h_fd rfl dX0_needlePoints_13 ?_
    refine lv_iconst (v := zI 0) hx hb dX0_needlePoints_16 (by decide +kernel) ?_
    refine zput hx hb inlX4 tyX4 tyX4_ok nmX4 rfl 2 rfl zk_t3_81 rfl hts hown hK hH hk_pt h_pt rfl rfl rfl dX0_needlePoints_17 (fun σ11 Hσ11 lσ11 h_pt hn hH => ?_)
    have h_pt : σ11 (o + 4) = oC_pt ad o 0 := h_pt
    have h_fd := (hn o (by omega)).trans h_fd
    have h_fd_cornerXs := (hn (o + 1) (by omega)).trans h_fd_cornerXs
    have h_fd_cornerYs := (hn (o + 2) (by omega)).trans h_fd_cornerYs
    have h_fd_crossings := (hn (o + 3) (by omega)).trans h_fd_crossings
    have h_pt_xs := (hn (o + 5) (by omega)).trans h_pt_xs
    have h_pt_ys := (hn (o + 6) (by omega)).trans h_pt_ys
    have hbg : ∀ i : Nat, i ≠ o → i ≠ (o + 3) → i ≠ (o + 4) → i ≠ (o + 5) → i ≠ (o + 6) → σ11 i = σ0 i := fun i a0 a1 a2 a3 a4 => (hn i a2).trans (hbg i a0 a1 a2 a3 a4)
    refine lv_aload_n hx hb dX0_needlePoints_20 rfl (lv_at hl 0 rfl) ?_
    refine zget hx hb inlX0 rfl 2 rfl zk_t3_95 hts hown hK hH hk_fd h_fd rfl dX0_needlePoints_21 ?_
    obtain ⟨k12, hf⟩ := zck_some hf
    refine lz_if_eq (tgt := 34) hx hb k12 dX0_needlePoints_24 (by decide) (fun c13 => ?_) (fun c13 => ?_)
    · replace hf := (if_pos c13).symm.trans hf
      refine lv_aload_n hx hb dX0_needlePoints_34 rfl (lv_at hl 0 rfl) ?_
      refine zget hx hb inlX0 rfl 7 rfl zk_t3_103 hts hown hK hH hk_fd h_fd rfl dX0_needlePoints_35 ?_
      refine lv_iconst (v := zI 3) hx hb dX0_needlePoints_38 (by decide +kernel) ?_
      obtain ⟨k14, hf⟩ := zck_some hf
      refine lz_icmp_lt (tgt := 57) hx hb ⟨k14, by decide⟩ dX0_needlePoints_39 (by decide) (fun c15 => ?_) (fun c15 => ?_)
      · replace hf := (if_pos c15).symm.trans hf
        exact J57 fd_crossings fd_crossingCount fd_drawn pt_xs pt_ys 0 _ _ _ hH h_fd h_fd_cornerXs h_fd_cornerYs h_fd_crossings h_pt h_pt_xs h_pt_ys hbg _ (lv_sub hl [0] rfl) hf
      · replace hf := (if_neg c15).symm.trans hf
        refine lv_aload_n hx hb dX0_needlePoints_42 rfl (lv_at hl 0 rfl) ?_
        refine zget hx hb inlX0 rfl 13 rfl zk_t3_111 hts hown hK hH hk_fd h_fd rfl dX0_needlePoints_43 ?_
        obtain ⟨k16, hf⟩ := zck_some hf
        refine lz_if_eq (tgt := 53) hx hb k16 dX0_needlePoints_46 (by decide) (fun c17 => ?_) (fun c17 => ?_)
        · replace hf := (if_pos c17).symm.trans hf
          exact J53 fd_crossings fd_crossingCount fd_drawn pt_xs pt_ys 0 _ _ _ hH h_fd h_fd_cornerXs h_fd_cornerYs h_fd_crossings h_pt h_pt_xs h_pt_ys hbg _ (lv_sub hl [0] rfl) hf
        · replace hf := (if_neg c17).symm.trans hf
          refine lv_aload_n hx hb dX0_needlePoints_49 rfl (lv_at hl 0 rfl) ?_
          obtain ⟨a18, a19, u20, k21, hf⟩ := zb3_some hf
          refine zcVv (C := RX0) (As := []) (rest := []) hx hb hml hown hts hl.1 hK hH hA (c_X0_drawUnderlay hI hN ho h_fd h_fd_cornerXs h_fd_cornerYs h_pt h_pt_xs h_pt_ys k21) zk_t1_226 zk_t1_228 zk_s1_2 zk_t1_13 zk_t1_229 hd_X0_drawUnderlay rfl ⟨rfl, rfl, Nat.le_of_ble_eq_true rfl, Nat.le_of_ble_eq_true rfl⟩ ⟨Nat.zero_le _, Nat.zero_le _⟩ hk_fd h_fd rfl rfl rfl (Nat.le_of_ble_eq_true rfl) dX0_needlePoints_50 (fun σ22 Hσ22 lσ22 hp hH => ?_)
          obtain ⟨h_pt, h_pt_xs, h_pt_ys, hn⟩ := hp
          have h_fd := (hn o (by omega) (by omega) (by omega)).trans h_fd
          have h_fd_cornerXs := (hn (o + 1) (by omega) (by omega) (by omega)).trans h_fd_cornerXs
          have h_fd_cornerYs := (hn (o + 2) (by omega) (by omega) (by omega)).trans h_fd_cornerYs
          have h_fd_crossings := (hn (o + 3) (by omega) (by omega) (by omega)).trans h_fd_crossings
          have hbg : ∀ i : Nat, i ≠ o → i ≠ (o + 3) → i ≠ (o + 4) → i ≠ (o + 5) → i ≠ (o + 6) → σ22 i = σ0 i := fun i a0 a1 a2 a3 a4 => (hn i a2 a3 a4).trans (hbg i a0 a1 a2 a3 a4)
          exact J53 fd_crossings fd_crossingCount fd_drawn a18 a19 u20 _ _ _ hH h_fd h_fd_cornerXs h_fd_cornerYs h_fd_crossings h_pt h_pt_xs h_pt_ys hbg _ (lv_sub hl [0] rfl) hf
    · replace hf := (if_neg c13).symm.trans hf
      refine lv_aload_n hx hb dX0_needlePoints_27 rfl (lv_at hl 0 rfl) ?_
      obtain ⟨a23, a24, u25, k26, hf⟩ := zb3_some hf
      refine zcVv (C := RX0) (As := []) (rest := []) hx hb hml hown hts hl.1 hK hH hA (c_X0_drawColumn hI hN ho h_fd h_fd_cornerXs h_fd_cornerYs h_pt h_pt_xs h_pt_ys k26) zk_t1_201 zk_t1_203 zk_s1_1 zk_t1_13 zk_t1_205 hd_X0_drawColumn rfl ⟨rfl, rfl, Nat.le_of_ble_eq_true rfl, Nat.le_of_ble_eq_true rfl⟩ ⟨Nat.zero_le _, Nat.zero_le _⟩ hk_fd h_fd rfl rfl rfl (Nat.le_of_ble_eq_true rfl) dX0_needlePoints_28 (fun σ27 Hσ27 lσ27 hp hH => ?_)
      obtain ⟨h_pt, h_pt_xs, h_pt_ys, hn⟩ := hp
      have h_fd := (hn o (by omega) (by omega) (by omega)).trans h_fd
      have h_fd_cornerXs := (hn (o + 1) (by omega) (by omega) (by omega)).trans h_fd_cornerXs
      have h_fd_cornerYs := (hn (o + 2) (by omega) (by omega) (by omega)).trans h_fd_cornerYs
      have h_fd_crossings := (hn (o + 3) (by omega) (by omega) (by omega)).trans h_fd_crossings
      have hbg : ∀ i : Nat, i ≠ o → i ≠ (o + 3) → i ≠ (o + 4) → i ≠ (o + 5) → i ≠ (o + 6) → σ27 i = σ0 i := fun i a0 a1 a2 a3 a4 => (hn i a2 a3 a4).trans (hbg i a0 a1 a2 a3 a4)
      refine lv_goto (tgt := 57) hx hb dX0_needlePoints_31 (by decide) ?_
      exact J57 fd_crossings fd_crossingCount fd_drawn a23 a24 u25 _ _ _ hH h_fd h_fd_cornerXs h_fd_cornerYs h_fd_crossings h_pt h_pt_xs h_pt_ys hbg _ (lv_sub hl [0] rfl) hf
  · replace hf := (if_neg c10).symm.trans hf
    refine lv_aload_n hx hb dX0_needlePoints_7 rfl (lv_at hl 0 rfl) ?_
    refine zget hx hb inlX0 rfl 6 rfl zk_t3_100 hts hown hK hH hk_fd h_fd rfl dX0_needlePoints_8 ?_
    cases hf
    exact zretq hx hb hr (Or.inl ⟨_, rfl⟩) hlocks hQ hH ⟨rfl, h_fd, h_fd_crossings, h_pt, h_pt_xs, h_pt_ys, hbg⟩ dX0_needlePoints_11
abbrev rmX6_comesAhead : Room := { frames := 2, cells := 0, slots := 0, locals := 43 }
theorem hd_X6_comesAhead : yX6_comesAhead.cls = RX6 ∧ yX6_comesAhead.cls ≠ "java/lang/invoke/MethodHandle" ∧ yX6_comesAhead.cls ≠ "java/lang/invoke/VarHandle" ∧ (parseMethodDescriptor yX6_comesAhead.desc).map (fun d => d.parameters.length) = some 2 := by decide +kernel
set_option maxHeartbeats 4000000 in
set_option maxRecDepth 100000 in
theorem c_X6_comesAhead {l : Launch} {D : va_G} {cI cZ cF cL cD : ClassId} {ad : Nat → Nat} {N : Nat} (hI : ∀ i j, i < N → j < N → ad i = ad j → i = j) (hN : 19 ≤ N) {nF : Int} (hNF : N = 19 + 7 * nF.toNat) {σ0 : Nat → va_E} {sz : Nat} {sp_fieldCount : Int} {sp_trimBound : Int} {sp_planned : Int} {F_fd_colour : Int → Int} {F_fd_layer : Int → Int} {F_fd_column : Int → Int} {F_fd_cornerXs : Int → Int → Int} {F_fd_cornerYs : Int → Int → Int} {F_fd_crossings : Int → Int → Int} {F_fd_cornerCount : Int → Int} {F_fd_crossingCount : Int → Int} {F_fd_density : Int → Int} {F_fd_length : Int → Int} {F_fd_shift : Int → Int} {F_fd_pull : Int → Int} {F_fd_underlay : Int → Int} {F_fd_drawn : Int → Int} {F_pt_xs : Int → Int → Int} {F_pt_ys : Int → Int → Int} {F_pt_size : Int → Int} {pl_size : Int} {pl_seconds : UInt32} {pl_needleX : Int} {pl_needleY : Int} {pl_colour : Int} {p1 : Int} {p2 : Int} {R0 : Int} (h_sp : σ0 0 = oC_sp ad sp_fieldCount sp_trimBound sp_planned) (h_pl : σ0 3 = oC_pl ad pl_size pl_seconds pl_needleX pl_needleY pl_colour) (h_FF : zFF ad cI nF σ0 F_fd_colour F_fd_layer F_fd_column F_fd_cornerXs F_fd_cornerYs F_fd_crossings F_fd_cornerCount F_fd_crossingCount F_fd_density F_fd_length F_fd_shift F_fd_pull F_fd_underlay F_fd_drawn F_pt_xs F_pt_ys F_pt_size) (hf : f_X6_comesAhead F_fd_colour F_fd_layer F_pt_xs F_pt_ys F_pt_size pl_needleX pl_needleY pl_colour nF p1 p2 = some R0) :
    Met l yX6_comesAhead (Cond.code yX6_comesAhead cX6_comesAhead 5 (some .boolean) :: wsL_law) rmX6_comesAhead (zPre D ad N (zT cI cZ cF cL cD) σ0 sz [.ref (ad 0), .ref (ad (fB p1)), .ref (ad (fB p2))]) (zQi D ad N sz (fun r σ' => r = zI R0 ∧ σ' = σ0)) 0 0 (zFr ad N sz) := by
  refine zMet hI (plainFor_of_name (by decide)) (Nat.le_of_ble_eq_true rfl) ⟨rfl, rfl⟩ ?_
  intro p e s m args below meth c Q hx hb hr hlocks hml hown hts hK hsz hQ hH hA ls hl
  subst hsz
  have hk_sp : 0 < N := by omega
  have hk_pl : 3 < N := by omega
  have hl : lv_has ls 5 [(0, .ref (ad 0)), (1, .ref (ad (fB p1))), (2, .ref (ad (fB p2)))] := hl
  have hbg : σ0 = σ0 := rfl
  have J67 : ∀ (x1 : Int) (x2 : Int) (x3 : Int) (s0 : Int) (σ : Nat → va_E) (H : Heap) (locs : List Loc) (hH : zH D ad N (zFr ad N s.heap.size) s.heap σ H locs) (h_sp : σ 0 = oC_sp ad sp_fieldCount sp_trimBound sp_planned) (h_pl : σ 3 = oC_pl ad pl_size pl_seconds pl_needleX pl_needleY pl_colour) (h_FF : zFF ad cI nF σ F_fd_colour F_fd_layer F_fd_column F_fd_cornerXs F_fd_cornerYs F_fd_crossings F_fd_cornerCount F_fd_crossingCount F_fd_density F_fd_length F_fd_shift F_fd_pull F_fd_underlay F_fd_drawn F_pt_xs F_pt_ys F_pt_size) (hbg : σ = σ0) (ls : Array Slot) (hl : lv_has ls 5 [(0, .ref (ad 0)), (1, .ref (ad (fB x1))), (2, .ref (ad (fB x2))), (3, .int (zI x3))]), f_X6_comesAhead_67 F_fd_colour F_fd_layer F_pt_xs F_pt_ys F_pt_size pl_needleX pl_needleY pl_colour nF x1 x2 x3 s0 = some R0 → W p l e rmX6_comesAhead s m args below meth c H locs 0 0 Q (F0 m 67 ls [.int (zI s0)]) := by
    intro x1 x2 x3 s0 σ H locs hH h_sp h_pl h_FF hbg ls hl hf
    unfold f_X6_comesAhead_67 at hf
    refine lv_istore (lv' := [(4, .int (zI s0)), (0, .ref (ad 0)), (1, .ref (ad (fB x1))), (2, .ref (ad (fB x2))), (3, .int (zI x3))]) hx hb dX6_comesAhead_67 hl (by decide) rfl (fun ls hl => ?_)
    refine lv_iload_n hx hb dX6_comesAhead_69 rfl (lv_at hl 4 rfl) ?_
    refine lv_iload hx hb dX6_comesAhead_70 (lv_at hl 0 rfl) ?_
    obtain ⟨k1, hf⟩ := zck_some hf
    refine lz_icmp_eq (tgt := 77) hx hb k1 dX6_comesAhead_72 (by decide) (fun c2 => ?_) (fun c2 => ?_)
    · replace hf := (if_pos c2).symm.trans hf
      refine lv_aload_n hx hb dX6_comesAhead_77 rfl (lv_at hl 1 rfl) ?_
      refine zget hx hb inlX6 rfl 2 rfl zk_t1_151 hts hown hK hH hk_sp h_sp rfl dX6_comesAhead_78 ?_
      refine lv_aload_n hx hb dX6_comesAhead_81 rfl (lv_at hl 2 rfl) ?_
      obtain ⟨k3, hf⟩ := zck_some hf
      obtain ⟨h_fd, h_fd_cornerXs, h_fd_cornerYs, h_fd_crossings, h_pt, h_pt_xs, h_pt_ys⟩ := h_FF x1 k3.1 k3.2
      refine zget hx hb inlX0 rfl 6 rfl zk_t3_102 hts hown hK hH (fB_lt hNF k3 0 (by decide)) h_fd rfl dX6_comesAhead_82 ?_
      obtain ⟨k4, hf⟩ := zck_some hf
      obtain ⟨h_fd, h_fd_cornerXs, h_fd_cornerYs, h_fd_crossings, h_pt, h_pt_xs, h_pt_ys⟩ := h_FF x1 k4.1 k4.2
      obtain ⟨r5, k6, hf⟩ := zb1_some hf
      refine zcVi (C := RX3) (As := [.ref (ad (fB x1 + 4))]) (rest := []) hx hb hml hown hts hl.1 hK hH hA (c_X3_squareToFirst hI hN ⟨fB_ge _, fB_le hNF k4⟩ h_pt h_pt_xs h_pt_ys h_pl k6) zk_t2_44 zk_t2_45 zk_t2_46 zk_t1_2 zk_t2_47 hd_X3_squareToFirst rfl ⟨rfl, rfl, Nat.le_of_ble_eq_true rfl, Nat.le_of_ble_eq_true rfl⟩ ⟨Nat.zero_le _, Nat.zero_le _⟩ hk_pl h_pl rfl rfl rfl (Nat.le_of_ble_eq_true rfl) dX6_comesAhead_85 (fun q8 σ7 Hσ7 lσ7 hp hH => ?_)
      obtain ⟨hr1, hs1⟩ := hp; subst hr1; rw [hs1] at hH
      refine lv_aload_n hx hb dX6_comesAhead_88 rfl (lv_at hl 1 rfl) ?_
      refine zget hx hb inlX6 rfl 2 rfl zk_t1_151 hts hown hK hH hk_sp h_sp rfl dX6_comesAhead_89 ?_
      refine lv_aload_n hx hb dX6_comesAhead_92 rfl (lv_at hl 3 rfl) ?_
      obtain ⟨k9, hf⟩ := zck_some hf
      obtain ⟨h_fd, h_fd_cornerXs, h_fd_cornerYs, h_fd_crossings, h_pt, h_pt_xs, h_pt_ys⟩ := h_FF x2 k9.1 k9.2
      refine zget hx hb inlX0 rfl 6 rfl zk_t3_102 hts hown hK hH (fB_lt hNF k9 0 (by decide)) h_fd rfl dX6_comesAhead_93 ?_
      obtain ⟨k10, hf⟩ := zck_some hf
      obtain ⟨h_fd, h_fd_cornerXs, h_fd_cornerYs, h_fd_crossings, h_pt, h_pt_xs, h_pt_ys⟩ := h_FF x2 k10.1 k10.2
      obtain ⟨r11, k12, hf⟩ := zb1_some hf
      refine zcVi (C := RX3) (As := [.ref (ad (fB x2 + 4))]) (rest := [.int (zI r5)]) hx hb hml hown hts hl.1 hK hH hA (c_X3_squareToFirst hI hN ⟨fB_ge _, fB_le hNF k10⟩ h_pt h_pt_xs h_pt_ys h_pl k12) zk_t2_44 zk_t2_45 zk_t2_46 zk_t1_2 zk_t2_47 hd_X3_squareToFirst rfl ⟨rfl, rfl, Nat.le_of_ble_eq_true rfl, Nat.le_of_ble_eq_true rfl⟩ ⟨Nat.zero_le _, Nat.zero_le _⟩ hk_pl h_pl rfl rfl rfl (Nat.le_of_ble_eq_true rfl) dX6_comesAhead_96 (fun q14 σ13 Hσ13 lσ13 hp hH => ?_)
      obtain ⟨hr1, hs1⟩ := hp; subst hr1; rw [hs1] at hH
      obtain ⟨k15, hf⟩ := zck_some hf
      refine lz_icmp_ge (tgt := 106) hx hb k15 dX6_comesAhead_99 (by decide) (fun c16 => ?_) (fun c16 => ?_)
      · replace hf := (if_pos c16).symm.trans hf
        refine lv_iconst (v := zI 0) hx hb dX6_comesAhead_106 (by decide +kernel) ?_
        cases hf
        exact zretz hx hb hr hlocks hQ hH ⟨rfl, hbg⟩ (z_nar _ (Or.inl rfl)) dX6_comesAhead_107
      · replace hf := (if_neg c16).symm.trans hf
        refine lv_iconst (v := zI 1) hx hb dX6_comesAhead_102 (by decide +kernel) ?_
        refine lv_goto (tgt := 107) hx hb dX6_comesAhead_103 (by decide) ?_
        cases hf
        exact zretz hx hb hr hlocks hQ hH ⟨rfl, hbg⟩ (z_nar _ (Or.inr rfl)) dX6_comesAhead_107
    · replace hf := (if_neg c2).symm.trans hf
      refine lv_iload_n hx hb dX6_comesAhead_75 rfl (lv_at hl 4 rfl) ?_
      obtain ⟨k17, hf⟩ := zck_some hf
      cases hf
      exact zretz hx hb hr hlocks hQ hH ⟨rfl, hbg⟩ (z_nar _ k17) dX6_comesAhead_76
  have J47 : ∀ (x1 : Int) (x2 : Int) (s0 : Int) (σ : Nat → va_E) (H : Heap) (locs : List Loc) (hH : zH D ad N (zFr ad N s.heap.size) s.heap σ H locs) (h_sp : σ 0 = oC_sp ad sp_fieldCount sp_trimBound sp_planned) (h_pl : σ 3 = oC_pl ad pl_size pl_seconds pl_needleX pl_needleY pl_colour) (h_FF : zFF ad cI nF σ F_fd_colour F_fd_layer F_fd_column F_fd_cornerXs F_fd_cornerYs F_fd_crossings F_fd_cornerCount F_fd_crossingCount F_fd_density F_fd_length F_fd_shift F_fd_pull F_fd_underlay F_fd_drawn F_pt_xs F_pt_ys F_pt_size) (hbg : σ = σ0) (ls : Array Slot) (hl : lv_has ls 5 [(0, .ref (ad 0)), (1, .ref (ad (fB x1))), (2, .ref (ad (fB x2)))]), f_X6_comesAhead_47 F_fd_colour F_fd_layer F_pt_xs F_pt_ys F_pt_size pl_needleX pl_needleY pl_colour nF x1 x2 s0 = some R0 → W p l e rmX6_comesAhead s m args below meth c H locs 0 0 Q (F0 m 47 ls [.int (zI s0)]) := by
    intro x1 x2 s0 σ H locs hH h_sp h_pl h_FF hbg ls hl hf
    unfold f_X6_comesAhead_47 at hf
    refine lv_istore_n (lv' := [(3, .int (zI s0)), (0, .ref (ad 0)), (1, .ref (ad (fB x1))), (2, .ref (ad (fB x2)))]) hx hb dX6_comesAhead_47 rfl hl (by decide) rfl (fun ls hl => ?_)
    refine lv_aload_n hx hb dX6_comesAhead_48 rfl (lv_at hl 3 rfl) ?_
    obtain ⟨k18, hf⟩ := zck_some hf
    obtain ⟨h_fd, h_fd_cornerXs, h_fd_cornerYs, h_fd_crossings, h_pt, h_pt_xs, h_pt_ys⟩ := h_FF x2 k18.1 k18.2
    refine zget hx hb inlX0 rfl 0 rfl zk_t3_92 hts hown hK hH (fB_lt hNF k18 0 (by decide)) h_fd rfl dX6_comesAhead_49 ?_
    refine lv_aload_n hx hb dX6_comesAhead_52 rfl (lv_at hl 1 rfl) ?_
    refine zget hx hb inlX6 rfl 2 rfl zk_t1_151 hts hown hK hH hk_sp h_sp rfl dX6_comesAhead_53 ?_
    refine zget hx hb inlX3 rfl 10 rfl zk_t1_48 hts hown hK hH hk_pl h_pl rfl dX6_comesAhead_56 ?_
    obtain ⟨k19, hf⟩ := zck_some hf
    refine lz_icmp_ne (tgt := 66) hx hb k19 dX6_comesAhead_59 (by decide) (fun c20 => ?_) (fun c20 => ?_)
    · replace hf := (if_neg c20).symm.trans hf
      refine lv_iconst (v := zI 0) hx hb dX6_comesAhead_66 (by decide +kernel) ?_
      exact J67 x1 x2 s0 0 _ _ _ hH h_sp h_pl h_FF hbg _ (lv_sub hl [1, 2, 3, 0] rfl) hf
    · replace hf := (if_pos c20).symm.trans hf
      refine lv_iconst (v := zI 1) hx hb dX6_comesAhead_62 (by decide +kernel) ?_
      refine lv_goto (tgt := 67) hx hb dX6_comesAhead_63 (by decide) ?_
      exact J67 x1 x2 s0 1 _ _ _ hH h_sp h_pl h_FF hbg _ (lv_sub hl [1, 2, 3, 0] rfl) hf
  unfold f_X6_comesAhead at hf
  refine lv_aload_n hx hb dX6_comesAhead_0 rfl (lv_at hl 1 rfl) ?_
  obtain ⟨k21, hf⟩ := zck_some hf
  obtain ⟨h_fd, h_fd_cornerXs, h_fd_cornerYs, h_fd_crossings, h_pt, h_pt_xs, h_pt_ys⟩ := h_FF p1 k21.1 k21.2
  refine zget hx hb inlX0 rfl 1 rfl zk_t3_94 hts hown hK hH (fB_lt hNF k21 0 (by decide)) h_fd rfl dX6_comesAhead_1 ?_
  refine lv_aload_n hx hb dX6_comesAhead_4 rfl (lv_at hl 2 rfl) ?_
  obtain ⟨k22, hf⟩ := zck_some hf
  obtain ⟨h_fd, h_fd_cornerXs, h_fd_cornerYs, h_fd_crossings, h_pt, h_pt_xs, h_pt_ys⟩ := h_FF p2 k22.1 k22.2
  refine zget hx hb inlX0 rfl 1 rfl zk_t3_94 hts hown hK hH (fB_lt hNF k22 0 (by decide)) h_fd rfl dX6_comesAhead_5 ?_
  obtain ⟨k23, hf⟩ := zck_some hf
  refine lz_icmp_eq (tgt := 28) hx hb k23 dX6_comesAhead_8 (by decide) (fun c24 => ?_) (fun c24 => ?_)
  · replace hf := (if_pos c24).symm.trans hf
    refine lv_aload_n hx hb dX6_comesAhead_28 rfl (lv_at hl 1 rfl) ?_
    obtain ⟨k25, hf⟩ := zck_some hf
    obtain ⟨h_fd, h_fd_cornerXs, h_fd_cornerYs, h_fd_crossings, h_pt, h_pt_xs, h_pt_ys⟩ := h_FF p1 k25.1 k25.2
    refine zget hx hb inlX0 rfl 0 rfl zk_t3_92 hts hown hK hH (fB_lt hNF k25 0 (by decide)) h_fd rfl dX6_comesAhead_29 ?_
    refine lv_aload_n hx hb dX6_comesAhead_32 rfl (lv_at hl 0 rfl) ?_
    refine zget hx hb inlX6 rfl 2 rfl zk_t1_151 hts hown hK hH hk_sp h_sp rfl dX6_comesAhead_33 ?_
    refine zget hx hb inlX3 rfl 10 rfl zk_t1_48 hts hown hK hH hk_pl h_pl rfl dX6_comesAhead_36 ?_
    obtain ⟨k26, hf⟩ := zck_some hf
    refine lz_icmp_ne (tgt := 46) hx hb k26 dX6_comesAhead_39 (by decide) (fun c27 => ?_) (fun c27 => ?_)
    · replace hf := (if_neg c27).symm.trans hf
      refine lv_iconst (v := zI 0) hx hb dX6_comesAhead_46 (by decide +kernel) ?_
      exact J47 p1 p2 0 _ _ _ hH h_sp h_pl h_FF hbg _ (lv_sub hl [0, 1, 2] rfl) hf
    · replace hf := (if_pos c27).symm.trans hf
      refine lv_iconst (v := zI 1) hx hb dX6_comesAhead_42 (by decide +kernel) ?_
      refine lv_goto (tgt := 47) hx hb dX6_comesAhead_43 (by decide) ?_
      exact J47 p1 p2 1 _ _ _ hH h_sp h_pl h_FF hbg _ (lv_sub hl [0, 1, 2] rfl) hf
  · replace hf := (if_neg c24).symm.trans hf
    refine lv_aload_n hx hb dX6_comesAhead_11 rfl (lv_at hl 1 rfl) ?_
    obtain ⟨k28, hf⟩ := zck_some hf
    obtain ⟨h_fd, h_fd_cornerXs, h_fd_cornerYs, h_fd_crossings, h_pt, h_pt_xs, h_pt_ys⟩ := h_FF p1 k28.1 k28.2
    refine zget hx hb inlX0 rfl 1 rfl zk_t3_94 hts hown hK hH (fB_lt hNF k28 0 (by decide)) h_fd rfl dX6_comesAhead_12 ?_
    refine lv_aload_n hx hb dX6_comesAhead_15 rfl (lv_at hl 2 rfl) ?_
    obtain ⟨k29, hf⟩ := zck_some hf
    obtain ⟨h_fd, h_fd_cornerXs, h_fd_cornerYs, h_fd_crossings, h_pt, h_pt_xs, h_pt_ys⟩ := h_FF p2 k29.1 k29.2
    refine zget hx hb inlX0 rfl 1 rfl zk_t3_94 hts hown hK hH (fB_lt hNF k29 0 (by decide)) h_fd rfl dX6_comesAhead_16 ?_
    obtain ⟨k30, hf⟩ := zck_some hf
    refine lz_icmp_ge (tgt := 26) hx hb k30 dX6_comesAhead_19 (by decide) (fun c31 => ?_) (fun c31 => ?_)
    · replace hf := (if_pos c31).symm.trans hf
      refine lv_iconst (v := zI 0) hx hb dX6_comesAhead_26 (by decide +kernel) ?_
      cases hf
      exact zretz hx hb hr hlocks hQ hH ⟨rfl, hbg⟩ (z_nar _ (Or.inl rfl)) dX6_comesAhead_27
    · replace hf := (if_neg c31).symm.trans hf
      refine lv_iconst (v := zI 1) hx hb dX6_comesAhead_22 (by decide +kernel) ?_
      refine lv_goto (tgt := 27) hx hb dX6_comesAhead_23 (by decide) ?_
      cases hf
      exact zretz hx hb hr hlocks hQ hH ⟨rfl, hbg⟩ (z_nar _ (Or.inr rfl)) dX6_comesAhead_27
abbrev rmX6_sewNextField : Room := { frames := 5, cells := 0, slots := 0, locals := 121 }
theorem hd_X6_sewNextField : yX6_sewNextField.cls = RX6 ∧ yX6_sewNextField.cls ≠ "java/lang/invoke/MethodHandle" ∧ yX6_sewNextField.cls ≠ "java/lang/invoke/VarHandle" ∧ (parseMethodDescriptor yX6_sewNextField.desc).map (fun d => d.parameters.length) = some 0 := by decide +kernel
set_option maxHeartbeats 4000000 in
set_option maxRecDepth 100000 in
theorem c_X6_sewNextField {l : Launch} {D : va_G} {cI cZ cF cL cD : ClassId} {ad : Nat → Nat} {N : Nat} (hI : ∀ i j, i < N → j < N → ad i = ad j → i = j) (hN : 19 ≤ N) {nF : Int} (hNF : N = 19 + 7 * nF.toNat) {σ0 : Nat → va_E} {sz : Nat} {sp_waiting : Int → Int} {sp_fieldCount : Int} {sp_trimBound : Int} {sp_planned : Int} {F_fd_colour : Int → Int} {F_fd_layer : Int → Int} {F_fd_column : Int → Int} {F_fd_cornerXs : Int → Int → Int} {F_fd_cornerYs : Int → Int → Int} {F_fd_crossings : Int → Int → Int} {F_fd_cornerCount : Int → Int} {F_fd_crossingCount : Int → Int} {F_fd_density : Int → Int} {F_fd_length : Int → Int} {F_fd_shift : Int → Int} {F_fd_pull : Int → Int} {F_fd_underlay : Int → Int} {F_fd_drawn : Int → Int} {F_pt_xs : Int → Int → Int} {F_pt_ys : Int → Int → Int} {F_pt_size : Int → Int} {pl_kinds : Int → Int} {pl_differencesX : Int → Int} {pl_differencesY : Int → Int} {pl_owners : Int → Int} {pl_kindCounts : Int → Int} {pl_threads : Int → Int} {pl_size : Int} {pl_seconds : UInt32} {pl_needleX : Int} {pl_needleY : Int} {pl_colour : Int} {R_sp_waiting : Int → Int} {R_pl_kinds : Int → Int} {R_pl_differencesX : Int → Int} {R_pl_differencesY : Int → Int} {R_pl_owners : Int → Int} {R_pl_kindCounts : Int → Int} {R_pl_threads : Int → Int} {R_pl_size : Int} {R_pl_seconds : UInt32} {R_pl_needleX : Int} {R_pl_needleY : Int} {R_pl_colour : Int} (h_sp : σ0 0 = oC_sp ad sp_fieldCount sp_trimBound sp_planned) (h_sp_fields : σ0 1 = .inl (cF, 8, .inr (.inr (.inr (.inr (zFA ad nF)))))) (h_sp_waiting : σ0 2 = .inl (cZ, 8, .inl (zA sp_waiting))) (h_pl : σ0 3 = oC_pl ad pl_size pl_seconds pl_needleX pl_needleY pl_colour) (h_pl_kinds : σ0 4 = .inl (cI, 16641, .inl (zA pl_kinds))) (h_pl_differencesX : σ0 5 = .inl (cI, 16641, .inl (zA pl_differencesX))) (h_pl_differencesY : σ0 6 = .inl (cI, 16641, .inl (zA pl_differencesY))) (h_pl_owners : σ0 7 = .inl (cI, 16641, .inl (zA pl_owners))) (h_pl_kindCounts : σ0 8 = .inl (cI, 5, .inl (zA pl_kindCounts))) (h_pl_threads : σ0 9 = .inl (cI, 6, .inl (zA pl_threads))) (h_FF : zFF ad cI nF σ0 F_fd_colour F_fd_layer F_fd_column F_fd_cornerXs F_fd_cornerYs F_fd_crossings F_fd_cornerCount F_fd_crossingCount F_fd_density F_fd_length F_fd_shift F_fd_pull F_fd_underlay F_fd_drawn F_pt_xs F_pt_ys F_pt_size) (hf : f_X6_sewNextField sp_waiting sp_trimBound F_fd_colour F_fd_layer F_pt_xs F_pt_ys F_pt_size pl_kinds pl_differencesX pl_differencesY pl_owners pl_kindCounts pl_threads pl_size pl_seconds pl_needleX pl_needleY pl_colour nF = some (R_sp_waiting, R_pl_kinds, R_pl_differencesX, R_pl_differencesY, R_pl_owners, R_pl_kindCounts, R_pl_threads, R_pl_size, R_pl_seconds, R_pl_needleX, R_pl_needleY, R_pl_colour)) :
    Met l yX6_sewNextField (Cond.code yX6_sewNextField cX6_sewNextField 5 none :: wsL_law) rmX6_sewNextField (zPre D ad N (zT cI cZ cF cL cD) σ0 sz [.ref (ad 0)]) (zQv D ad N sz (fun σ' => σ' 2 = .inl (cZ, 8, .inl (zA R_sp_waiting)) ∧ σ' 3 = oC_pl ad R_pl_size R_pl_seconds R_pl_needleX R_pl_needleY R_pl_colour ∧ σ' 4 = .inl (cI, 16641, .inl (zA R_pl_kinds)) ∧ σ' 5 = .inl (cI, 16641, .inl (zA R_pl_differencesX)) ∧ σ' 6 = .inl (cI, 16641, .inl (zA R_pl_differencesY)) ∧ σ' 7 = .inl (cI, 16641, .inl (zA R_pl_owners)) ∧ σ' 8 = .inl (cI, 5, .inl (zA R_pl_kindCounts)) ∧ σ' 9 = .inl (cI, 6, .inl (zA R_pl_threads)) ∧ ∀ i : Nat, i ≠ 2 → i ≠ 3 → i ≠ 4 → i ≠ 5 → i ≠ 6 → i ≠ 7 → i ≠ 8 → i ≠ 9 → σ' i = σ0 i)) 0 0 (zFr ad N sz) := by
  refine zMet hI (plainFor_of_name (by decide)) (Nat.le_of_ble_eq_true rfl) ⟨rfl, rfl⟩ ?_
  intro p e s m args below meth c Q hx hb hr hlocks hml hown hts hK hsz hQ hH hA ls hl
  subst hsz
  have hk_sp : 0 < N := by omega
  have hk_sp_fields : 1 < N := by omega
  have hk_sp_waiting : 2 < N := by omega
  have hk_pl : 3 < N := by omega
  have hk_pl_kinds : 4 < N := by omega
  have hk_pl_differencesX : 5 < N := by omega
  have hk_pl_differencesY : 6 < N := by omega
  have hk_pl_owners : 7 < N := by omega
  have hk_pl_kindCounts : 8 < N := by omega
  have hk_pl_threads : 9 < N := by omega
  have hl : lv_has ls 5 [(0, .ref (ad 0))] := hl
  have hbg : ∀ i : Nat, i ≠ 2 → i ≠ 3 → i ≠ 4 → i ≠ 5 → i ≠ 6 → i ≠ 7 → i ≠ 8 → i ≠ 9 → σ0 i = σ0 i := fun _ _ _ _ _ _ _ _ _ => rfl
  have L6 : ∀ (sp_waiting : Int → Int) (pl_kinds : Int → Int) (pl_differencesX : Int → Int) (pl_differencesY : Int → Int) (pl_owners : Int → Int) (pl_kindCounts : Int → Int) (pl_threads : Int → Int) (pl_size : Int) (pl_seconds : UInt32) (pl_needleX : Int) (pl_needleY : Int) (pl_colour : Int)  (n : Nat) (x1 : Int) (x2 : Int) (x3 : Int) (x1' : Int) (x2' : Int) (x3' : Int), zlp (fun z => f_X6_sewNextField_L6 sp_waiting sp_trimBound F_fd_colour F_fd_layer F_pt_xs F_pt_ys F_pt_size pl_kinds pl_differencesX pl_differencesY pl_owners pl_kindCounts pl_threads pl_size pl_seconds pl_needleX pl_needleY pl_colour nF z.1 z.2.1 z.2.2) n (x1, x2, x3) = some (x1', x2', x3') → ∀ (σ : Nat → va_E) (H : Heap) (locs : List Loc) (hH : zH D ad N (zFr ad N s.heap.size) s.heap σ H locs) (h_sp : σ 0 = oC_sp ad sp_fieldCount sp_trimBound sp_planned) (h_sp_fields : σ 1 = .inl (cF, 8, .inr (.inr (.inr (.inr (zFA ad nF)))))) (h_sp_waiting : σ 2 = .inl (cZ, 8, .inl (zA sp_waiting))) (h_pl : σ 3 = oC_pl ad pl_size pl_seconds pl_needleX pl_needleY pl_colour) (h_pl_kinds : σ 4 = .inl (cI, 16641, .inl (zA pl_kinds))) (h_pl_differencesX : σ 5 = .inl (cI, 16641, .inl (zA pl_differencesX))) (h_pl_differencesY : σ 6 = .inl (cI, 16641, .inl (zA pl_differencesY))) (h_pl_owners : σ 7 = .inl (cI, 16641, .inl (zA pl_owners))) (h_pl_kindCounts : σ 8 = .inl (cI, 5, .inl (zA pl_kindCounts))) (h_pl_threads : σ 9 = .inl (cI, 6, .inl (zA pl_threads))) (h_FF : zFF ad cI nF σ F_fd_colour F_fd_layer F_fd_column F_fd_cornerXs F_fd_cornerYs F_fd_crossings F_fd_cornerCount F_fd_crossingCount F_fd_density F_fd_length F_fd_shift F_fd_pull F_fd_underlay F_fd_drawn F_pt_xs F_pt_ys F_pt_size) (hbg : ∀ i : Nat, i ≠ 2 → i ≠ 3 → i ≠ 4 → i ≠ 5 → i ≠ 6 → i ≠ 7 → i ≠ 8 → i ≠ 9 → σ i = σ0 i) (ls : Array Slot) (hl : lv_has ls 5 [(0, .ref (ad 0)), (1, .int (zI x1)), (2, va_rf (zfo ad nF x2)), (3, .int (zI x3))]), (∀ (σ : Nat → va_E) (H : Heap) (locs : List Loc) (hH : zH D ad N (zFr ad N s.heap.size) s.heap σ H locs) (h_sp : σ 0 = oC_sp ad sp_fieldCount sp_trimBound sp_planned) (h_sp_fields : σ 1 = .inl (cF, 8, .inr (.inr (.inr (.inr (zFA ad nF)))))) (h_sp_waiting : σ 2 = .inl (cZ, 8, .inl (zA sp_waiting))) (h_pl : σ 3 = oC_pl ad pl_size pl_seconds pl_needleX pl_needleY pl_colour) (h_pl_kinds : σ 4 = .inl (cI, 16641, .inl (zA pl_kinds))) (h_pl_differencesX : σ 5 = .inl (cI, 16641, .inl (zA pl_differencesX))) (h_pl_differencesY : σ 6 = .inl (cI, 16641, .inl (zA pl_differencesY))) (h_pl_owners : σ 7 = .inl (cI, 16641, .inl (zA pl_owners))) (h_pl_kindCounts : σ 8 = .inl (cI, 5, .inl (zA pl_kindCounts))) (h_pl_threads : σ 9 = .inl (cI, 6, .inl (zA pl_threads))) (h_FF : zFF ad cI nF σ F_fd_colour F_fd_layer F_fd_column F_fd_cornerXs F_fd_cornerYs F_fd_crossings F_fd_cornerCount F_fd_crossingCount F_fd_density F_fd_length F_fd_shift F_fd_pull F_fd_underlay F_fd_drawn F_pt_xs F_pt_ys F_pt_size) (hbg : ∀ i : Nat, i ≠ 2 → i ≠ 3 → i ≠ 4 → i ≠ 5 → i ≠ 6 → i ≠ 7 → i ≠ 8 → i ≠ 9 → σ i = σ0 i) (ls : Array Slot) (hl : lv_has ls 5 [(0, .ref (ad 0)), (1, .int (zI (x1'))), (2, va_rf (zfo ad nF (x2')))]), W p l e rmX6_sewNextField s m args below meth c H locs 0 0 Q (F0 m 71 ls [])) → W p l e rmX6_sewNextField s m args below meth c H locs 0 0 Q (F0 m 6 ls []) := by
    intro sp_waiting pl_kinds pl_differencesX pl_differencesY pl_owners pl_kindCounts pl_threads pl_size pl_seconds pl_needleX pl_needleY pl_colour n
    induction n with
    | zero => intro x1 x2 x3 x1' x2' x3' hz; exact (zlp_0 hz).elim
    | succ n ih =>
      intro x1 x2 x3 x1' x2' x3' hz σ H locs hH h_sp h_sp_fields h_sp_waiting h_pl h_pl_kinds h_pl_differencesX h_pl_differencesY h_pl_owners h_pl_kindCounts h_pl_threads h_FF hbg ls hl kx
      obtain ⟨nx, hf, hnx⟩ := zlp_some hz
      have hf : f_X6_sewNextField_L6 sp_waiting sp_trimBound F_fd_colour F_fd_layer F_pt_xs F_pt_ys F_pt_size pl_kinds pl_differencesX pl_differencesY pl_owners pl_kindCounts pl_threads pl_size pl_seconds pl_needleX pl_needleY pl_colour nF x1 x2 x3 = some nx := hf
      unfold f_X6_sewNextField_L6 at hf
      refine lv_iload_n hx hb dX6_sewNextField_6 rfl (lv_at hl 3 rfl) ?_
      refine lv_aload_n hx hb dX6_sewNextField_7 rfl (lv_at hl 0 rfl) ?_
      refine zget hx hb inlX6 rfl 1 rfl zk_t1_150 hts hown hK hH hk_sp h_sp rfl dX6_sewNextField_8 ?_
      refine zalen (z := 8) hx hb hK hH hk_sp_waiting 1 h_sp_waiting rfl (show Int32.ofNat 8 = zI 8 by decide +kernel) dX6_sewNextField_11 ?_
      obtain ⟨k1, hf⟩ := zck_some hf
      refine lz_icmp_ge (tgt := 71) hx hb ⟨k1, by decide⟩ dX6_sewNextField_12 (by decide) (fun c2 => ?_) (fun c2 => ?_)
      · replace hf := (if_pos c2).symm.trans hf
        cases hf
        cases hnx
        exact kx _ _ _ hH h_sp h_sp_fields h_sp_waiting h_pl h_pl_kinds h_pl_differencesX h_pl_differencesY h_pl_owners h_pl_kindCounts h_pl_threads h_FF hbg _ (lv_sub hl [0, 1, 2] rfl)
      · replace hf := (if_neg c2).symm.trans hf
        refine lv_iload_n hx hb dX6_sewNextField_15 rfl (lv_at hl 3 rfl) ?_
        refine lv_aload_n hx hb dX6_sewNextField_16 rfl (lv_at hl 0 rfl) ?_
        refine zget hx hb inlX6 rfl 0 rfl zk_t1_149 hts hown hK hH hk_sp h_sp rfl dX6_sewNextField_17 ?_
        refine zalen (z := 8) hx hb hK hH hk_sp_fields 2 h_sp_fields rfl (show Int32.ofNat 8 = zI 8 by decide +kernel) dX6_sewNextField_20 ?_
        obtain ⟨k3, hf⟩ := zck_some hf
        refine lz_icmp_ge (tgt := 71) hx hb ⟨k3, by decide⟩ dX6_sewNextField_21 (by decide) (fun c4 => ?_) (fun c4 => ?_)
        · replace hf := (if_pos c4).symm.trans hf
          cases hf
          cases hnx
          exact kx _ _ _ hH h_sp h_sp_fields h_sp_waiting h_pl h_pl_kinds h_pl_differencesX h_pl_differencesY h_pl_owners h_pl_kindCounts h_pl_threads h_FF hbg _ (lv_sub hl [0, 1, 2] rfl)
        · replace hf := (if_neg c4).symm.trans hf
          refine lv_aload_n hx hb dX6_sewNextField_24 rfl (lv_at hl 0 rfl) ?_
          refine zget hx hb inlX6 rfl 0 rfl zk_t1_149 hts hown hK hH hk_sp h_sp rfl dX6_sewNextField_25 ?_
          refine lv_iload_n hx hb dX6_sewNextField_28 rfl (lv_at hl 3 rfl) ?_
          obtain ⟨k5, hf⟩ := zck_some hf
          refine zaald hx hb hK hH hk_sp_fields 2 h_sp_fields rfl k5 rfl dX6_sewNextField_29 ?_
          refine lz_astoreq (lv' := [(4, va_rf (zfo ad nF x3)), (0, .ref (ad 0)), (1, .int (zI x1)), (2, va_rf (zfo ad nF x2)), (3, .int (zI x3))]) hx hb dX6_sewNextField_30 hl (by decide) rfl (fun ls hl => ?_)
          refine lz_aloadq hx hb dX6_sewNextField_32 (lv_at hl 0 rfl) ?_
          refine lz_ifnull (tgt := 65) hx hb dX6_sewNextField_34 (by decide) (fun c6 => ?_) (fun c6 => ?_)
          · replace hf := (if_neg c6).symm.trans hf
            refine lz_iinc (lv' := [(3, .int (zI (x3 + 1))), (4, va_rf (zfo ad nF x3)), (0, .ref (ad 0)), (1, .int (zI x1)), (2, va_rf (zfo ad nF x2))]) hx hb dX6_sewNextField_65 hl (j := 4) rfl (by decide) (by first | rfl | (simp only [List.filter, zcat]; rfl) | simp only [List.filter, zcat]) (fun ls hl => ?_)
            refine lv_goto (tgt := 6) hx hb dX6_sewNextField_68 (by decide) ?_
            cases hf
            exact ih x1 x2 (x3 + 1) _ _ _ hnx _ _ _ hH h_sp h_sp_fields h_sp_waiting h_pl h_pl_kinds h_pl_differencesX h_pl_differencesY h_pl_owners h_pl_kindCounts h_pl_threads h_FF hbg _ (lv_sub hl [2, 3, 4, 0] rfl) kx
          · replace hf := (if_pos c6).symm.trans hf
            refine lv_aload_n hx hb dX6_sewNextField_37 rfl (lv_at hl 1 rfl) ?_
            refine zget hx hb inlX6 rfl 1 rfl zk_t1_150 hts hown hK hH hk_sp h_sp rfl dX6_sewNextField_38 ?_
            refine lv_iload_n hx hb dX6_sewNextField_41 rfl (lv_at hl 4 rfl) ?_
            obtain ⟨k7, hf⟩ := zck_some hf
            refine zzald hx hb hK hH hk_sp_waiting 1 h_sp_waiting rfl k7 rfl dX6_sewNextField_42 ?_
            obtain ⟨k8, hf⟩ := zck_some hf
            refine lz_if_eq (tgt := 65) hx hb k8 dX6_sewNextField_43 (by decide) (fun c9 => ?_) (fun c9 => ?_)
            · replace hf := (if_pos c9).symm.trans hf
              refine lz_iinc (lv' := [(3, .int (zI (x3 + 1))), (4, va_rf (zfo ad nF x3)), (0, .ref (ad 0)), (1, .int (zI x1)), (2, va_rf (zfo ad nF x2))]) hx hb dX6_sewNextField_65 hl (j := 4) rfl (by decide) (by first | rfl | (simp only [List.filter, zcat]; rfl) | simp only [List.filter, zcat]) (fun ls hl => ?_)
              refine lv_goto (tgt := 6) hx hb dX6_sewNextField_68 (by decide) ?_
              cases hf
              exact ih x1 x2 (x3 + 1) _ _ _ hnx _ _ _ hH h_sp h_sp_fields h_sp_waiting h_pl h_pl_kinds h_pl_differencesX h_pl_differencesY h_pl_owners h_pl_kindCounts h_pl_threads h_FF hbg _ (lv_sub hl [2, 3, 4, 0] rfl) kx
            · replace hf := (if_neg c9).symm.trans hf
              refine lz_aload_nq hx hb dX6_sewNextField_46 rfl (lv_at hl 3 rfl) ?_
              refine lz_ifnull (tgt := 60) hx hb dX6_sewNextField_47 (by decide) (fun c10 => ?_) (fun c10 => ?_)
              · replace hf := (if_neg c10).symm.trans hf
                refine lv_iload_n hx hb dX6_sewNextField_60 rfl (lv_at hl 4 rfl) ?_
                refine lv_istore_n (lv' := [(1, .int (zI x3)), (4, va_rf (zfo ad nF x3)), (0, .ref (ad 0)), (2, va_rf (zfo ad nF x2)), (3, .int (zI x3))]) hx hb dX6_sewNextField_61 rfl hl (by decide) rfl (fun ls hl => ?_)
                refine lz_aloadq hx hb dX6_sewNextField_62 (lv_at hl 1 rfl) ?_
                refine lz_astore_nq (lv' := [(2, va_rf (zfo ad nF x3)), (1, .int (zI x3)), (4, va_rf (zfo ad nF x3)), (0, .ref (ad 0)), (3, .int (zI x3))]) hx hb dX6_sewNextField_64 rfl hl (by decide) rfl (fun ls hl => ?_)
                refine lz_iinc (lv' := [(3, .int (zI (x3 + 1))), (2, va_rf (zfo ad nF x3)), (1, .int (zI x3)), (4, va_rf (zfo ad nF x3)), (0, .ref (ad 0))]) hx hb dX6_sewNextField_65 hl (j := 4) rfl (by decide) (by first | rfl | (simp only [List.filter, zcat]; rfl) | simp only [List.filter, zcat]) (fun ls hl => ?_)
                refine lv_goto (tgt := 6) hx hb dX6_sewNextField_68 (by decide) ?_
                cases hf
                exact ih x3 x3 (x3 + 1) _ _ _ hnx _ _ _ hH h_sp h_sp_fields h_sp_waiting h_pl h_pl_kinds h_pl_differencesX h_pl_differencesY h_pl_owners h_pl_kindCounts h_pl_threads h_FF hbg _ (lv_sub hl [4, 2, 1, 0] rfl) kx
              · replace hf := (if_pos c10).symm.trans hf
                refine lv_aload_n hx hb dX6_sewNextField_50 rfl (lv_at hl 1 rfl) ?_
                refine lz_aloadq hx hb dX6_sewNextField_51 (lv_at hl 0 rfl) ?_
                obtain ⟨k11, hf⟩ := zck_some hf
                refine lz_deref k11 ?_
                refine lz_aload_nq hx hb dX6_sewNextField_53 rfl (lv_at hl 3 rfl) ?_
                obtain ⟨k12, hf⟩ := zck_some hf
                refine lz_deref k12 ?_
                obtain ⟨r13, k14, hf⟩ := zb1_some hf
                refine zcVi (C := RX6) (As := [.ref (ad (fB x3)), .ref (ad (fB x2))]) (rest := []) hx hb hml hown hts hl.1 hK hH hA (c_X6_comesAhead hI hN hNF  h_sp h_pl h_FF k14) zk_t2_40 zk_t2_42 zk_s1_9 zk_t1_1 zk_t2_43 hd_X6_comesAhead rfl ⟨rfl, rfl, Nat.le_of_ble_eq_true rfl, Nat.le_of_ble_eq_true rfl⟩ ⟨Nat.zero_le _, Nat.zero_le _⟩ hk_sp h_sp rfl rfl rfl (Nat.le_of_ble_eq_true rfl) dX6_sewNextField_54 (fun q16 σ15 Hσ15 lσ15 hp hH => ?_)
                obtain ⟨hr1, hs1⟩ := hp; subst hr1; rw [hs1] at hH
                obtain ⟨k17, hf⟩ := zck_some hf
                refine lz_if_eq (tgt := 65) hx hb k17 dX6_sewNextField_57 (by decide) (fun c18 => ?_) (fun c18 => ?_)
                · replace hf := (if_pos c18).symm.trans hf
                  refine lz_iinc (lv' := [(3, .int (zI (x3 + 1))), (4, va_rf (zfo ad nF x3)), (0, .ref (ad 0)), (1, .int (zI x1)), (2, va_rf (zfo ad nF x2))]) hx hb dX6_sewNextField_65 hl (j := 4) rfl (by decide) (by first | rfl | (simp only [List.filter, zcat]; rfl) | simp only [List.filter, zcat]) (fun ls hl => ?_)
                  refine lv_goto (tgt := 6) hx hb dX6_sewNextField_68 (by decide) ?_
                  cases hf
                  exact ih x1 x2 (x3 + 1) _ _ _ hnx _ _ _ hH h_sp h_sp_fields h_sp_waiting h_pl h_pl_kinds h_pl_differencesX h_pl_differencesY h_pl_owners h_pl_kindCounts h_pl_threads h_FF hbg _ (lv_sub hl [2, 3, 4, 0] rfl) kx
                · replace hf := (if_neg c18).symm.trans hf
                  refine lv_iload_n hx hb dX6_sewNextField_60 rfl (lv_at hl 4 rfl) ?_
                  refine lv_istore_n (lv' := [(1, .int (zI x3)), (4, va_rf (zfo ad nF x3)), (0, .ref (ad 0)), (2, va_rf (zfo ad nF x2)), (3, .int (zI x3))]) hx hb dX6_sewNextField_61 rfl hl (by decide) rfl (fun ls hl => ?_)
                  refine lz_aloadq hx hb dX6_sewNextField_62 (lv_at hl 1 rfl) ?_
                  refine lz_astore_nq (lv' := [(2, va_rf (zfo ad nF x3)), (1, .int (zI x3)), (4, va_rf (zfo ad nF x3)), (0, .ref (ad 0)), (3, .int (zI x3))]) hx hb dX6_sewNextField_64 rfl hl (by decide) rfl (fun ls hl => ?_)
                  refine lz_iinc (lv' := [(3, .int (zI (x3 + 1))), (2, va_rf (zfo ad nF x3)), (1, .int (zI x3)), (4, va_rf (zfo ad nF x3)), (0, .ref (ad 0))]) hx hb dX6_sewNextField_65 hl (j := 4) rfl (by decide) (by first | rfl | (simp only [List.filter, zcat]; rfl) | simp only [List.filter, zcat]) (fun ls hl => ?_)
                  refine lv_goto (tgt := 6) hx hb dX6_sewNextField_68 (by decide) ?_
                  cases hf
                  exact ih x3 x3 (x3 + 1) _ _ _ hnx _ _ _ hH h_sp h_sp_fields h_sp_waiting h_pl h_pl_kinds h_pl_differencesX h_pl_differencesY h_pl_owners h_pl_kindCounts h_pl_threads h_FF hbg _ (lv_sub hl [4, 2, 1, 0] rfl) kx
  unfold f_X6_sewNextField at hf
  refine lv_iconst (v := zI (-1)) hx hb dX6_sewNextField_0 (by decide +kernel) ?_
  refine lv_istore_n (lv' := [(1, .int (zI (-1))), (0, .ref (ad 0))]) hx hb dX6_sewNextField_1 rfl hl (by decide) rfl (fun ls hl => ?_)
  refine lz_null (ad := ad) (nF := nF) hx hb dX6_sewNextField_2 ?_
  refine lz_astore_nq (lv' := [(2, va_rf (zfo ad nF (-1))), (1, .int (zI (-1))), (0, .ref (ad 0))]) hx hb dX6_sewNextField_3 rfl hl (by decide) rfl (fun ls hl => ?_)
  refine lv_iconst (v := zI 0) hx hb dX6_sewNextField_4 (by decide +kernel) ?_
  refine lv_istore_n (lv' := [(3, .int (zI 0)), (2, va_rf (zfo ad nF (-1))), (1, .int (zI (-1))), (0, .ref (ad 0))]) hx hb dX6_sewNextField_5 rfl hl (by decide) (by first | rfl | (simp only [List.filter, zcat]; rfl) | simp only [List.filter, zcat]) (fun ls hl => ?_)
  obtain ⟨w20, w21, w22, k19, hf⟩ := zb3_some hf
  refine L6 sp_waiting pl_kinds pl_differencesX pl_differencesY pl_owners pl_kindCounts pl_threads pl_size pl_seconds pl_needleX pl_needleY pl_colour zFU (-1) (-1) 0 w20 w21 w22 k19 _ _ _ hH h_sp h_sp_fields h_sp_waiting h_pl h_pl_kinds h_pl_differencesX h_pl_differencesY h_pl_owners h_pl_kindCounts h_pl_threads h_FF hbg _ (lv_sub hl [3, 2, 1, 0] rfl) (fun σ23 Hσ23 lσ23 hH h_sp h_sp_fields h_sp_waiting h_pl h_pl_kinds h_pl_differencesX h_pl_differencesY h_pl_owners h_pl_kindCounts h_pl_threads h_FF hbg ls hl => ?_)
  refine lz_aload_nq hx hb dX6_sewNextField_71 rfl (lv_at hl 2 rfl) ?_
  refine lz_ifnull (tgt := 108) hx hb dX6_sewNextField_72 (by decide) (fun c24 => ?_) (fun c24 => ?_)
  · replace hf := (if_neg c24).symm.trans hf
    cases hf
    exact zretv hx hb hr hlocks hQ hH ⟨h_sp_waiting, h_pl, h_pl_kinds, h_pl_differencesX, h_pl_differencesY, h_pl_owners, h_pl_kindCounts, h_pl_threads, hbg⟩ dX6_sewNextField_108
  · replace hf := (if_pos c24).symm.trans hf
    refine lv_iload_n hx hb dX6_sewNextField_75 rfl (lv_at hl 1 rfl) ?_
    obtain ⟨k25, hf⟩ := zck_some hf
    refine lz_if_lt (tgt := 108) hx hb k25 dX6_sewNextField_76 (by decide) (fun c26 => ?_) (fun c26 => ?_)
    · replace hf := (if_pos c26).symm.trans hf
      cases hf
      exact zretv hx hb hr hlocks hQ hH ⟨h_sp_waiting, h_pl, h_pl_kinds, h_pl_differencesX, h_pl_differencesY, h_pl_owners, h_pl_kindCounts, h_pl_threads, hbg⟩ dX6_sewNextField_108
    · replace hf := (if_neg c26).symm.trans hf
      refine lv_iload_n hx hb dX6_sewNextField_79 rfl (lv_at hl 1 rfl) ?_
      refine lv_aload_n hx hb dX6_sewNextField_80 rfl (lv_at hl 0 rfl) ?_
      refine zget hx hb inlX6 rfl 1 rfl zk_t1_150 hts hown hK hH hk_sp h_sp rfl dX6_sewNextField_81 ?_
      refine zalen (z := 8) hx hb hK hH hk_sp_waiting 1 h_sp_waiting rfl (show Int32.ofNat 8 = zI 8 by decide +kernel) dX6_sewNextField_84 ?_
      obtain ⟨k27, hf⟩ := zck_some hf
      refine lz_icmp_ge (tgt := 108) hx hb ⟨k27, by decide⟩ dX6_sewNextField_85 (by decide) (fun c28 => ?_) (fun c28 => ?_)
      · replace hf := (if_pos c28).symm.trans hf
        cases hf
        exact zretv hx hb hr hlocks hQ hH ⟨h_sp_waiting, h_pl, h_pl_kinds, h_pl_differencesX, h_pl_differencesY, h_pl_owners, h_pl_kindCounts, h_pl_threads, hbg⟩ dX6_sewNextField_108
      · replace hf := (if_neg c28).symm.trans hf
        refine lv_aload_n hx hb dX6_sewNextField_88 rfl (lv_at hl 0 rfl) ?_
        refine zget hx hb inlX6 rfl 1 rfl zk_t1_150 hts hown hK hH hk_sp h_sp rfl dX6_sewNextField_89 ?_
        refine lv_iload_n hx hb dX6_sewNextField_92 rfl (lv_at hl 1 rfl) ?_
        refine lv_iconst (v := zI 0) hx hb dX6_sewNextField_93 (by decide +kernel) ?_
        obtain ⟨k29, hf⟩ := zck_some hf
        obtain ⟨a31, ea31, hf⟩ := zlt_some hf
        refine zzast hx hb hK hH hk_sp_waiting 1 h_sp_waiting rfl k29 (Or.inl rfl) rfl dX6_sewNextField_94 (fun σ30 Hσ30 lσ30 h_sp_waiting hn hH => ?_)
        rw [← ea31] at h_sp_waiting
        have h_sp := (hn 0 (by decide)).trans h_sp
        have h_sp_fields := (hn 1 (by decide)).trans h_sp_fields
        have h_pl := (hn 3 (by decide)).trans h_pl
        have h_pl_kinds := (hn 4 (by decide)).trans h_pl_kinds
        have h_pl_differencesX := (hn 5 (by decide)).trans h_pl_differencesX
        have h_pl_differencesY := (hn 6 (by decide)).trans h_pl_differencesY
        have h_pl_owners := (hn 7 (by decide)).trans h_pl_owners
        have h_pl_kindCounts := (hn 8 (by decide)).trans h_pl_kindCounts
        have h_pl_threads := (hn 9 (by decide)).trans h_pl_threads
        have h_FF := zFF_keep (fun i hi => hn i (by omega)) h_FF
        have hbg : ∀ i : Nat, i ≠ 2 → i ≠ 3 → i ≠ 4 → i ≠ 5 → i ≠ 6 → i ≠ 7 → i ≠ 8 → i ≠ 9 → σ30 i = σ0 i := fun i a0 a1 a2 a3 a4 a5 a6 a7 => (hn i a0).trans (hbg i a0 a1 a2 a3 a4 a5 a6 a7)
        refine lv_aload_n hx hb dX6_sewNextField_95 rfl (lv_at hl 0 rfl) ?_
        refine zget hx hb inlX6 rfl 2 rfl zk_t1_151 hts hown hK hH hk_sp h_sp rfl dX6_sewNextField_96 ?_
        refine lz_aload_nq hx hb dX6_sewNextField_99 rfl (lv_at hl 2 rfl) ?_
        obtain ⟨k32, hf⟩ := zck_some hf
        refine lz_deref k32 ?_
        refine lv_iload_n hx hb dX6_sewNextField_100 rfl (lv_at hl 1 rfl) ?_
        refine lv_aload_n hx hb dX6_sewNextField_101 rfl (lv_at hl 0 rfl) ?_
        refine zget hx hb inlX6 rfl 7 rfl zk_t1_156 hts hown hK hH hk_sp h_sp rfl dX6_sewNextField_102 ?_
        obtain ⟨k33, hf⟩ := zck_some hf
        obtain ⟨h_fd, h_fd_cornerXs, h_fd_cornerYs, h_fd_crossings, h_pt, h_pt_xs, h_pt_ys⟩ := h_FF w21 k33.1 k33.2
        obtain ⟨a34, a35, a36, a37, a38, a39, u40, u41, u42, u43, u44, k45, hf⟩ := zb11_some hf
        refine zcVv (C := RX3) (As := [.ref (ad (fB w21)), .int (zI w20), .int (zI sp_trimBound)]) (rest := []) hx hb hml hown hts hl.1 hK hH hA (c_X3_sewField hI hN ⟨fB_ge _, fB_le hNF k33⟩ h_fd h_pt h_pt_xs h_pt_ys h_pl h_pl_kinds h_pl_differencesX h_pl_differencesY h_pl_owners h_pl_kindCounts h_pl_threads k45) zk_t2_56 zk_t2_57 zk_t2_58 zk_t1_2 zk_t2_59 hd_X3_sewField rfl ⟨rfl, rfl, Nat.le_of_ble_eq_true rfl, Nat.le_of_ble_eq_true rfl⟩ ⟨Nat.zero_le _, Nat.zero_le _⟩ hk_pl h_pl rfl rfl rfl (Nat.le_of_ble_eq_true rfl) dX6_sewNextField_105 (fun σ46 Hσ46 lσ46 hp hH => ?_)
        obtain ⟨h_pl, h_pl_kinds, h_pl_differencesX, h_pl_differencesY, h_pl_owners, h_pl_kindCounts, h_pl_threads, hn⟩ := hp
        have h_sp := (hn 0 (by decide) (by decide) (by decide) (by decide) (by decide) (by decide) (by decide)).trans h_sp
        have h_sp_fields := (hn 1 (by decide) (by decide) (by decide) (by decide) (by decide) (by decide) (by decide)).trans h_sp_fields
        have h_sp_waiting := (hn 2 (by decide) (by decide) (by decide) (by decide) (by decide) (by decide) (by decide)).trans h_sp_waiting
        have h_FF := zFF_keep (fun i hi => hn i (by omega) (by omega) (by omega) (by omega) (by omega) (by omega) (by omega)) h_FF
        have hbg : ∀ i : Nat, i ≠ 2 → i ≠ 3 → i ≠ 4 → i ≠ 5 → i ≠ 6 → i ≠ 7 → i ≠ 8 → i ≠ 9 → σ46 i = σ0 i := fun i a0 a1 a2 a3 a4 a5 a6 a7 => (hn i a1 a2 a3 a4 a5 a6 a7).trans (hbg i a0 a1 a2 a3 a4 a5 a6 a7)
        cases hf
        exact zretv hx hb hr hlocks hQ hH ⟨h_sp_waiting, h_pl, h_pl_kinds, h_pl_differencesX, h_pl_differencesY, h_pl_owners, h_pl_kindCounts, h_pl_threads, hbg⟩ dX6_sewNextField_108
abbrev rmX6_refresh : Room := { frames := 6, cells := 0, slots := 0, locals := 145 }
theorem hd_X6_refresh : yX6_refresh.cls = RX6 ∧ yX6_refresh.cls ≠ "java/lang/invoke/MethodHandle" ∧ yX6_refresh.cls ≠ "java/lang/invoke/VarHandle" ∧ (parseMethodDescriptor yX6_refresh.desc).map (fun d => d.parameters.length) = some 0 := by decide +kernel
set_option maxHeartbeats 4000000 in
set_option maxRecDepth 100000 in
theorem c_X6_refresh {l : Launch} {D : va_G} {cI cZ cF cL cD : ClassId} {ad : Nat → Nat} {N : Nat} (hI : ∀ i j, i < N → j < N → ad i = ad j → i = j) (hN : 19 ≤ N) {nF : Int} (hNF : N = 19 + 7 * nF.toNat) {σ0 : Nat → va_E} {sz : Nat} {sp_waiting : Int → Int} {sp_fieldCount : Int} {sp_trimBound : Int} {sp_planned : Int} {F_fd_colour : Int → Int} {F_fd_layer : Int → Int} {F_fd_column : Int → Int} {F_fd_cornerXs : Int → Int → Int} {F_fd_cornerYs : Int → Int → Int} {F_fd_crossings : Int → Int → Int} {F_fd_cornerCount : Int → Int} {F_fd_crossingCount : Int → Int} {F_fd_density : Int → Int} {F_fd_length : Int → Int} {F_fd_shift : Int → Int} {F_fd_pull : Int → Int} {F_fd_underlay : Int → Int} {F_fd_drawn : Int → Int} {F_pt_xs : Int → Int → Int} {F_pt_ys : Int → Int → Int} {F_pt_size : Int → Int} {pl_kinds : Int → Int} {pl_differencesX : Int → Int} {pl_differencesY : Int → Int} {pl_owners : Int → Int} {pl_kindCounts : Int → Int} {pl_threads : Int → Int} {pl_size : Int} {pl_seconds : UInt32} {pl_needleX : Int} {pl_needleY : Int} {pl_colour : Int} {R_sp_waiting : Int → Int} {R_sp_planned : Int} {R_F_fd_crossings : Int → Int → Int} {R_F_fd_crossingCount : Int → Int} {R_F_fd_drawn : Int → Int} {R_F_pt_xs : Int → Int → Int} {R_F_pt_ys : Int → Int → Int} {R_F_pt_size : Int → Int} {R_pl_kinds : Int → Int} {R_pl_differencesX : Int → Int} {R_pl_differencesY : Int → Int} {R_pl_owners : Int → Int} {R_pl_kindCounts : Int → Int} {R_pl_threads : Int → Int} {R_pl_size : Int} {R_pl_seconds : UInt32} {R_pl_needleX : Int} {R_pl_needleY : Int} {R_pl_colour : Int} (h_sp : σ0 0 = oC_sp ad sp_fieldCount sp_trimBound sp_planned) (h_sp_fields : σ0 1 = .inl (cF, 8, .inr (.inr (.inr (.inr (zFA ad nF)))))) (h_sp_waiting : σ0 2 = .inl (cZ, 8, .inl (zA sp_waiting))) (h_pl : σ0 3 = oC_pl ad pl_size pl_seconds pl_needleX pl_needleY pl_colour) (h_pl_kinds : σ0 4 = .inl (cI, 16641, .inl (zA pl_kinds))) (h_pl_differencesX : σ0 5 = .inl (cI, 16641, .inl (zA pl_differencesX))) (h_pl_differencesY : σ0 6 = .inl (cI, 16641, .inl (zA pl_differencesY))) (h_pl_owners : σ0 7 = .inl (cI, 16641, .inl (zA pl_owners))) (h_pl_kindCounts : σ0 8 = .inl (cI, 5, .inl (zA pl_kindCounts))) (h_pl_threads : σ0 9 = .inl (cI, 6, .inl (zA pl_threads))) (h_FF : zFF ad cI nF σ0 F_fd_colour F_fd_layer F_fd_column F_fd_cornerXs F_fd_cornerYs F_fd_crossings F_fd_cornerCount F_fd_crossingCount F_fd_density F_fd_length F_fd_shift F_fd_pull F_fd_underlay F_fd_drawn F_pt_xs F_pt_ys F_pt_size) (hf : f_X6_refresh sp_waiting sp_trimBound sp_planned F_fd_colour F_fd_layer F_fd_column F_fd_cornerXs F_fd_cornerYs F_fd_crossings F_fd_cornerCount F_fd_crossingCount F_fd_density F_fd_length F_fd_shift F_fd_pull F_fd_underlay F_fd_drawn F_pt_xs F_pt_ys F_pt_size pl_kinds pl_differencesX pl_differencesY pl_owners pl_kindCounts pl_threads pl_size pl_seconds pl_needleX pl_needleY pl_colour nF = some (R_sp_waiting, R_sp_planned, R_F_fd_crossings, R_F_fd_crossingCount, R_F_fd_drawn, R_F_pt_xs, R_F_pt_ys, R_F_pt_size, R_pl_kinds, R_pl_differencesX, R_pl_differencesY, R_pl_owners, R_pl_kindCounts, R_pl_threads, R_pl_size, R_pl_seconds, R_pl_needleX, R_pl_needleY, R_pl_colour)) :
    Met l yX6_refresh (Cond.code yX6_refresh cX6_refresh 3 none :: wsL_law) rmX6_refresh (zPre D ad N (zT cI cZ cF cL cD) σ0 sz [.ref (ad 0)]) (zQv D ad N sz (fun σ' => σ' 0 = oC_sp ad sp_fieldCount sp_trimBound R_sp_planned ∧ σ' 2 = .inl (cZ, 8, .inl (zA R_sp_waiting)) ∧ σ' 3 = oC_pl ad R_pl_size R_pl_seconds R_pl_needleX R_pl_needleY R_pl_colour ∧ σ' 4 = .inl (cI, 16641, .inl (zA R_pl_kinds)) ∧ σ' 5 = .inl (cI, 16641, .inl (zA R_pl_differencesX)) ∧ σ' 6 = .inl (cI, 16641, .inl (zA R_pl_differencesY)) ∧ σ' 7 = .inl (cI, 16641, .inl (zA R_pl_owners)) ∧ σ' 8 = .inl (cI, 5, .inl (zA R_pl_kindCounts)) ∧ σ' 9 = .inl (cI, 6, .inl (zA R_pl_threads)) ∧ zFF ad cI nF σ' F_fd_colour F_fd_layer F_fd_column F_fd_cornerXs F_fd_cornerYs R_F_fd_crossings F_fd_cornerCount R_F_fd_crossingCount F_fd_density F_fd_length F_fd_shift F_fd_pull F_fd_underlay R_F_fd_drawn R_F_pt_xs R_F_pt_ys R_F_pt_size ∧ ∀ i : Nat, i < 19 → i ≠ 0 → i ≠ 2 → i ≠ 3 → i ≠ 4 → i ≠ 5 → i ≠ 6 → i ≠ 7 → i ≠ 8 → i ≠ 9 → σ' i = σ0 i)) 0 0 (zFr ad N sz) := by
  refine zMet hI (plainFor_of_name (by decide)) (Nat.le_of_ble_eq_true rfl) ⟨rfl, rfl⟩ ?_
  intro p e s m args below meth c Q hx hb hr hlocks hml hown hts hK hsz hQ hH hA ls hl
  subst hsz
  have hk_sp : 0 < N := by omega
  have hk_sp_fields : 1 < N := by omega
  have hk_sp_waiting : 2 < N := by omega
  have hk_pl : 3 < N := by omega
  have hk_pl_kinds : 4 < N := by omega
  have hk_pl_differencesX : 5 < N := by omega
  have hk_pl_differencesY : 6 < N := by omega
  have hk_pl_owners : 7 < N := by omega
  have hk_pl_kindCounts : 8 < N := by omega
  have hk_pl_threads : 9 < N := by omega
  have hl : lv_has ls 3 [(0, .ref (ad 0))] := hl
  have hbg : ∀ i : Nat, i < 19 → i ≠ 0 → i ≠ 2 → i ≠ 3 → i ≠ 4 → i ≠ 5 → i ≠ 6 → i ≠ 7 → i ≠ 8 → i ≠ 9 → σ0 i = σ0 i := fun _ _ _ _ _ _ _ _ _ _ _ => rfl
  have L75 : ∀ (sp_planned : Int) (F_fd_crossings : Int → Int → Int) (F_fd_crossingCount : Int → Int) (F_fd_drawn : Int → Int) (F_pt_xs : Int → Int → Int) (F_pt_ys : Int → Int → Int) (F_pt_size : Int → Int)  (n : Nat) (x1 : Int) (sp_waiting : Int → Int) (pl_kinds : Int → Int) (pl_differencesX : Int → Int) (pl_differencesY : Int → Int) (pl_owners : Int → Int) (pl_kindCounts : Int → Int) (pl_threads : Int → Int) (pl_size : Int) (pl_seconds : UInt32) (pl_needleX : Int) (pl_needleY : Int) (pl_colour : Int) (x1' : Int) (sp_waiting' : Int → Int) (pl_kinds' : Int → Int) (pl_differencesX' : Int → Int) (pl_differencesY' : Int → Int) (pl_owners' : Int → Int) (pl_kindCounts' : Int → Int) (pl_threads' : Int → Int) (pl_size' : Int) (pl_seconds' : UInt32) (pl_needleX' : Int) (pl_needleY' : Int) (pl_colour' : Int), zlp (fun z => f_X6_refresh_L75 sp_trimBound sp_planned F_fd_colour F_fd_layer F_fd_column F_fd_cornerXs F_fd_cornerYs F_fd_crossings F_fd_cornerCount F_fd_crossingCount F_fd_density F_fd_length F_fd_shift F_fd_pull F_fd_underlay F_fd_drawn F_pt_xs F_pt_ys F_pt_size nF z.1 z.2.1 z.2.2.1 z.2.2.2.1 z.2.2.2.2.1 z.2.2.2.2.2.1 z.2.2.2.2.2.2.1 z.2.2.2.2.2.2.2.1 z.2.2.2.2.2.2.2.2.1 z.2.2.2.2.2.2.2.2.2.1 z.2.2.2.2.2.2.2.2.2.2.1 z.2.2.2.2.2.2.2.2.2.2.2.1 z.2.2.2.2.2.2.2.2.2.2.2.2) n (x1, sp_waiting, pl_kinds, pl_differencesX, pl_differencesY, pl_owners, pl_kindCounts, pl_threads, pl_size, pl_seconds, pl_needleX, pl_needleY, pl_colour) = some (x1', sp_waiting', pl_kinds', pl_differencesX', pl_differencesY', pl_owners', pl_kindCounts', pl_threads', pl_size', pl_seconds', pl_needleX', pl_needleY', pl_colour') → ∀ (σ : Nat → va_E) (H : Heap) (locs : List Loc) (hH : zH D ad N (zFr ad N s.heap.size) s.heap σ H locs) (h_sp : σ 0 = oC_sp ad sp_fieldCount sp_trimBound sp_planned) (h_sp_fields : σ 1 = .inl (cF, 8, .inr (.inr (.inr (.inr (zFA ad nF)))))) (h_sp_waiting : σ 2 = .inl (cZ, 8, .inl (zA sp_waiting))) (h_pl : σ 3 = oC_pl ad pl_size pl_seconds pl_needleX pl_needleY pl_colour) (h_pl_kinds : σ 4 = .inl (cI, 16641, .inl (zA pl_kinds))) (h_pl_differencesX : σ 5 = .inl (cI, 16641, .inl (zA pl_differencesX))) (h_pl_differencesY : σ 6 = .inl (cI, 16641, .inl (zA pl_differencesY))) (h_pl_owners : σ 7 = .inl (cI, 16641, .inl (zA pl_owners))) (h_pl_kindCounts : σ 8 = .inl (cI, 5, .inl (zA pl_kindCounts))) (h_pl_threads : σ 9 = .inl (cI, 6, .inl (zA pl_threads))) (h_FF : zFF ad cI nF σ F_fd_colour F_fd_layer F_fd_column F_fd_cornerXs F_fd_cornerYs F_fd_crossings F_fd_cornerCount F_fd_crossingCount F_fd_density F_fd_length F_fd_shift F_fd_pull F_fd_underlay F_fd_drawn F_pt_xs F_pt_ys F_pt_size) (hbg : ∀ i : Nat, i < 19 → i ≠ 0 → i ≠ 2 → i ≠ 3 → i ≠ 4 → i ≠ 5 → i ≠ 6 → i ≠ 7 → i ≠ 8 → i ≠ 9 → σ i = σ0 i) (ls : Array Slot) (hl : lv_has ls 3 [(0, .ref (ad 0)), (1, .int (zI x1))]), (∀ (σ : Nat → va_E) (H : Heap) (locs : List Loc) (hH : zH D ad N (zFr ad N s.heap.size) s.heap σ H locs) (h_sp : σ 0 = oC_sp ad sp_fieldCount sp_trimBound sp_planned) (h_sp_fields : σ 1 = .inl (cF, 8, .inr (.inr (.inr (.inr (zFA ad nF)))))) (h_sp_waiting : σ 2 = .inl (cZ, 8, .inl (zA (sp_waiting')))) (h_pl : σ 3 = oC_pl ad (pl_size') (pl_seconds') (pl_needleX') (pl_needleY') (pl_colour')) (h_pl_kinds : σ 4 = .inl (cI, 16641, .inl (zA (pl_kinds')))) (h_pl_differencesX : σ 5 = .inl (cI, 16641, .inl (zA (pl_differencesX')))) (h_pl_differencesY : σ 6 = .inl (cI, 16641, .inl (zA (pl_differencesY')))) (h_pl_owners : σ 7 = .inl (cI, 16641, .inl (zA (pl_owners')))) (h_pl_kindCounts : σ 8 = .inl (cI, 5, .inl (zA (pl_kindCounts')))) (h_pl_threads : σ 9 = .inl (cI, 6, .inl (zA (pl_threads')))) (h_FF : zFF ad cI nF σ F_fd_colour F_fd_layer F_fd_column F_fd_cornerXs F_fd_cornerYs F_fd_crossings F_fd_cornerCount F_fd_crossingCount F_fd_density F_fd_length F_fd_shift F_fd_pull F_fd_underlay F_fd_drawn F_pt_xs F_pt_ys F_pt_size) (hbg : ∀ i : Nat, i < 19 → i ≠ 0 → i ≠ 2 → i ≠ 3 → i ≠ 4 → i ≠ 5 → i ≠ 6 → i ≠ 7 → i ≠ 8 → i ≠ 9 → σ i = σ0 i) (ls : Array Slot) (hl : lv_has ls 3 [(0, .ref (ad 0))]), W p l e rmX6_refresh s m args below meth c H locs 0 0 Q (F0 m 91 ls [])) → W p l e rmX6_refresh s m args below meth c H locs 0 0 Q (F0 m 75 ls []) := by
    intro sp_planned F_fd_crossings F_fd_crossingCount F_fd_drawn F_pt_xs F_pt_ys F_pt_size n
    induction n with
    | zero => intro x1 sp_waiting pl_kinds pl_differencesX pl_differencesY pl_owners pl_kindCounts pl_threads pl_size pl_seconds pl_needleX pl_needleY pl_colour x1' sp_waiting' pl_kinds' pl_differencesX' pl_differencesY' pl_owners' pl_kindCounts' pl_threads' pl_size' pl_seconds' pl_needleX' pl_needleY' pl_colour' hz; exact (zlp_0 hz).elim
    | succ n ih =>
      intro x1 sp_waiting pl_kinds pl_differencesX pl_differencesY pl_owners pl_kindCounts pl_threads pl_size pl_seconds pl_needleX pl_needleY pl_colour x1' sp_waiting' pl_kinds' pl_differencesX' pl_differencesY' pl_owners' pl_kindCounts' pl_threads' pl_size' pl_seconds' pl_needleX' pl_needleY' pl_colour' hz σ H locs hH h_sp h_sp_fields h_sp_waiting h_pl h_pl_kinds h_pl_differencesX h_pl_differencesY h_pl_owners h_pl_kindCounts h_pl_threads h_FF hbg ls hl kx
      obtain ⟨nx, hf, hnx⟩ := zlp_some hz
      have hf : f_X6_refresh_L75 sp_trimBound sp_planned F_fd_colour F_fd_layer F_fd_column F_fd_cornerXs F_fd_cornerYs F_fd_crossings F_fd_cornerCount F_fd_crossingCount F_fd_density F_fd_length F_fd_shift F_fd_pull F_fd_underlay F_fd_drawn F_pt_xs F_pt_ys F_pt_size nF x1 sp_waiting pl_kinds pl_differencesX pl_differencesY pl_owners pl_kindCounts pl_threads pl_size pl_seconds pl_needleX pl_needleY pl_colour = some nx := hf
      unfold f_X6_refresh_L75 at hf
      refine lv_iload_n hx hb dX6_refresh_75 rfl (lv_at hl 1 rfl) ?_
      refine lv_bipush (v := zI 8) hx hb dX6_refresh_76 (by decide +kernel) ?_
      obtain ⟨k1, hf⟩ := zck_some hf
      refine lz_icmp_ge (tgt := 91) hx hb ⟨k1, by decide⟩ dX6_refresh_78 (by decide) (fun c2 => ?_) (fun c2 => ?_)
      · replace hf := (if_pos c2).symm.trans hf
        cases hf
        cases hnx
        exact kx _ _ _ hH h_sp h_sp_fields h_sp_waiting h_pl h_pl_kinds h_pl_differencesX h_pl_differencesY h_pl_owners h_pl_kindCounts h_pl_threads h_FF hbg _ (lv_sub hl [0] rfl)
      · replace hf := (if_neg c2).symm.trans hf
        refine lv_aload_n hx hb dX6_refresh_81 rfl (lv_at hl 0 rfl) ?_
        obtain ⟨a3, a4, a5, a6, a7, a8, a9, u10, u11, u12, u13, u14, k15, hf⟩ := zb12_some hf
        refine zcVv (C := RX6) (As := []) (rest := []) hx hb hml hown hts hl.1 hK hH hA (c_X6_sewNextField hI hN hNF  h_sp h_sp_fields h_sp_waiting h_pl h_pl_kinds h_pl_differencesX h_pl_differencesY h_pl_owners h_pl_kindCounts h_pl_threads h_FF k15) zk_t2_36 zk_t2_38 zk_s1_8 zk_t1_1 zk_t2_39 hd_X6_sewNextField rfl ⟨rfl, rfl, Nat.le_of_ble_eq_true rfl, Nat.le_of_ble_eq_true rfl⟩ ⟨Nat.zero_le _, Nat.zero_le _⟩ hk_sp h_sp rfl rfl rfl (Nat.le_of_ble_eq_true rfl) dX6_refresh_82 (fun σ16 Hσ16 lσ16 hp hH => ?_)
        obtain ⟨h_sp_waiting, h_pl, h_pl_kinds, h_pl_differencesX, h_pl_differencesY, h_pl_owners, h_pl_kindCounts, h_pl_threads, hn⟩ := hp
        have h_sp := (hn 0 (by decide) (by decide) (by decide) (by decide) (by decide) (by decide) (by decide) (by decide)).trans h_sp
        have h_sp_fields := (hn 1 (by decide) (by decide) (by decide) (by decide) (by decide) (by decide) (by decide) (by decide)).trans h_sp_fields
        have h_FF := zFF_keep (fun i hi => hn i (by omega) (by omega) (by omega) (by omega) (by omega) (by omega) (by omega) (by omega)) h_FF
        have hbg : ∀ i : Nat, i < 19 → i ≠ 0 → i ≠ 2 → i ≠ 3 → i ≠ 4 → i ≠ 5 → i ≠ 6 → i ≠ 7 → i ≠ 8 → i ≠ 9 → σ16 i = σ0 i := fun i h46 a0 a1 a2 a3 a4 a5 a6 a7 a8 => (hn i a1 a2 a3 a4 a5 a6 a7 a8).trans (hbg i h46 a0 a1 a2 a3 a4 a5 a6 a7 a8)
        refine lz_iinc (lv' := [(1, .int (zI (x1 + 1))), (0, .ref (ad 0))]) hx hb dX6_refresh_85 hl (j := 1) rfl (by decide) rfl (fun ls hl => ?_)
        refine lv_goto (tgt := 75) hx hb dX6_refresh_88 (by decide) ?_
        cases hf
        exact ih (x1 + 1) a3 a4 a5 a6 a7 a8 a9 u10 u11 u12 u13 u14 _ _ _ _ _ _ _ _ _ _ _ _ _ hnx _ _ _ hH h_sp h_sp_fields h_sp_waiting h_pl h_pl_kinds h_pl_differencesX h_pl_differencesY h_pl_owners h_pl_kindCounts h_pl_threads h_FF hbg _ (lv_sub hl [1, 0] rfl) kx
  have J66 : ∀ (sp_waiting : Int → Int) (sp_planned : Int) (F_fd_crossings : Int → Int → Int) (F_fd_crossingCount : Int → Int) (F_fd_drawn : Int → Int) (F_pt_xs : Int → Int → Int) (F_pt_ys : Int → Int → Int) (F_pt_size : Int → Int) (pl_kinds : Int → Int) (pl_differencesX : Int → Int) (pl_differencesY : Int → Int) (pl_owners : Int → Int) (pl_kindCounts : Int → Int) (pl_threads : Int → Int) (pl_size : Int) (pl_seconds : UInt32) (pl_needleX : Int) (pl_needleY : Int) (pl_colour : Int) (σ : Nat → va_E) (H : Heap) (locs : List Loc) (hH : zH D ad N (zFr ad N s.heap.size) s.heap σ H locs) (h_sp : σ 0 = oC_sp ad sp_fieldCount sp_trimBound sp_planned) (h_sp_fields : σ 1 = .inl (cF, 8, .inr (.inr (.inr (.inr (zFA ad nF)))))) (h_sp_waiting : σ 2 = .inl (cZ, 8, .inl (zA sp_waiting))) (h_pl : σ 3 = oC_pl ad pl_size pl_seconds pl_needleX pl_needleY pl_colour) (h_pl_kinds : σ 4 = .inl (cI, 16641, .inl (zA pl_kinds))) (h_pl_differencesX : σ 5 = .inl (cI, 16641, .inl (zA pl_differencesX))) (h_pl_differencesY : σ 6 = .inl (cI, 16641, .inl (zA pl_differencesY))) (h_pl_owners : σ 7 = .inl (cI, 16641, .inl (zA pl_owners))) (h_pl_kindCounts : σ 8 = .inl (cI, 5, .inl (zA pl_kindCounts))) (h_pl_threads : σ 9 = .inl (cI, 6, .inl (zA pl_threads))) (h_FF : zFF ad cI nF σ F_fd_colour F_fd_layer F_fd_column F_fd_cornerXs F_fd_cornerYs F_fd_crossings F_fd_cornerCount F_fd_crossingCount F_fd_density F_fd_length F_fd_shift F_fd_pull F_fd_underlay F_fd_drawn F_pt_xs F_pt_ys F_pt_size) (hbg : ∀ i : Nat, i < 19 → i ≠ 0 → i ≠ 2 → i ≠ 3 → i ≠ 4 → i ≠ 5 → i ≠ 6 → i ≠ 7 → i ≠ 8 → i ≠ 9 → σ i = σ0 i) (ls : Array Slot) (hl : lv_has ls 3 [(0, .ref (ad 0))]), f_X6_refresh_66 sp_waiting sp_trimBound sp_planned F_fd_colour F_fd_layer F_fd_column F_fd_cornerXs F_fd_cornerYs F_fd_crossings F_fd_cornerCount F_fd_crossingCount F_fd_density F_fd_length F_fd_shift F_fd_pull F_fd_underlay F_fd_drawn F_pt_xs F_pt_ys F_pt_size pl_kinds pl_differencesX pl_differencesY pl_owners pl_kindCounts pl_threads pl_size pl_seconds pl_needleX pl_needleY pl_colour nF = some (R_sp_waiting, R_sp_planned, R_F_fd_crossings, R_F_fd_crossingCount, R_F_fd_drawn, R_F_pt_xs, R_F_pt_ys, R_F_pt_size, R_pl_kinds, R_pl_differencesX, R_pl_differencesY, R_pl_owners, R_pl_kindCounts, R_pl_threads, R_pl_size, R_pl_seconds, R_pl_needleX, R_pl_needleY, R_pl_colour) → W p l e rmX6_refresh s m args below meth c H locs 0 0 Q (F0 m 66 ls []) := by
    intro sp_waiting sp_planned F_fd_crossings F_fd_crossingCount F_fd_drawn F_pt_xs F_pt_ys F_pt_size pl_kinds pl_differencesX pl_differencesY pl_owners pl_kindCounts pl_threads pl_size pl_seconds pl_needleX pl_needleY pl_colour σ H locs hH h_sp h_sp_fields h_sp_waiting h_pl h_pl_kinds h_pl_differencesX h_pl_differencesY h_pl_owners h_pl_kindCounts h_pl_threads h_FF hbg ls hl hf
    unfold f_X6_refresh_66 at hf
    refine lv_aload_n hx hb dX6_refresh_66 rfl (lv_at hl 0 rfl) ?_
    refine zget hx hb inlX6 rfl 2 rfl zk_t1_151 hts hown hK hH hk_sp h_sp rfl dX6_refresh_67 ?_
    obtain ⟨a17, a18, u19, u20, u21, u22, u23, k24, hf⟩ := zb7_some hf
    refine zcVv (C := RX3) (As := []) (rest := []) hx hb hml hown hts hl.1 hK hH hA (c_X3_begin hI hN  h_pl h_pl_kindCounts h_pl_threads k24) zk_t2_32 zk_t2_33 zk_t2_34 zk_t1_2 zk_t2_35 hd_X3_begin rfl ⟨rfl, rfl, Nat.le_of_ble_eq_true rfl, Nat.le_of_ble_eq_true rfl⟩ ⟨Nat.zero_le _, Nat.zero_le _⟩ hk_pl h_pl rfl rfl rfl (Nat.le_of_ble_eq_true rfl) dX6_refresh_70 (fun σ25 Hσ25 lσ25 hp hH => ?_)
    obtain ⟨h_pl, h_pl_kindCounts, h_pl_threads, hn⟩ := hp
    have h_sp := (hn 0 (by decide) (by decide) (by decide)).trans h_sp
    have h_sp_fields := (hn 1 (by decide) (by decide) (by decide)).trans h_sp_fields
    have h_sp_waiting := (hn 2 (by decide) (by decide) (by decide)).trans h_sp_waiting
    have h_pl_kinds := (hn 4 (by decide) (by decide) (by decide)).trans h_pl_kinds
    have h_pl_differencesX := (hn 5 (by decide) (by decide) (by decide)).trans h_pl_differencesX
    have h_pl_differencesY := (hn 6 (by decide) (by decide) (by decide)).trans h_pl_differencesY
    have h_pl_owners := (hn 7 (by decide) (by decide) (by decide)).trans h_pl_owners
    have h_FF := zFF_keep (fun i hi => hn i (by omega) (by omega) (by omega)) h_FF
    have hbg : ∀ i : Nat, i < 19 → i ≠ 0 → i ≠ 2 → i ≠ 3 → i ≠ 4 → i ≠ 5 → i ≠ 6 → i ≠ 7 → i ≠ 8 → i ≠ 9 → σ25 i = σ0 i := fun i h46 a0 a1 a2 a3 a4 a5 a6 a7 a8 => (hn i a2 a7 a8).trans (hbg i h46 a0 a1 a2 a3 a4 a5 a6 a7 a8)
    refine lv_iconst (v := zI 0) hx hb dX6_refresh_73 (by decide +kernel) ?_
    refine lv_istore_n (lv' := [(1, .int (zI 0)), (0, .ref (ad 0))]) hx hb dX6_refresh_74 rfl hl (by decide) rfl (fun ls hl => ?_)
    obtain ⟨w27, w28, w29, w30, w31, w32, w33, w34, w35, w36, w37, w38, w39, k26, hf⟩ := zb13_some hf
    refine L75 sp_planned F_fd_crossings F_fd_crossingCount F_fd_drawn F_pt_xs F_pt_ys F_pt_size zFU 0 sp_waiting pl_kinds pl_differencesX pl_differencesY pl_owners a17 a18 u19 u20 u21 u22 u23 w27 w28 w29 w30 w31 w32 w33 w34 w35 w36 w37 w38 w39 k26 _ _ _ hH h_sp h_sp_fields h_sp_waiting h_pl h_pl_kinds h_pl_differencesX h_pl_differencesY h_pl_owners h_pl_kindCounts h_pl_threads h_FF hbg _ (lv_sub hl [1, 0] rfl) (fun σ40 Hσ40 lσ40 hH h_sp h_sp_fields h_sp_waiting h_pl h_pl_kinds h_pl_differencesX h_pl_differencesY h_pl_owners h_pl_kindCounts h_pl_threads h_FF hbg ls hl => ?_)
    refine lv_aload_n hx hb dX6_refresh_91 rfl (lv_at hl 0 rfl) ?_
    refine zget hx hb inlX6 rfl 2 rfl zk_t1_151 hts hown hK hH hk_sp h_sp rfl dX6_refresh_92 ?_
    refine lv_iconst (v := zI 4) hx hb dX6_refresh_95 (by decide +kernel) ?_
    refine lv_iconst (v := zI 0) hx hb dX6_refresh_96 (by decide +kernel) ?_
    refine lv_iconst (v := zI 0) hx hb dX6_refresh_97 (by decide +kernel) ?_
    refine lv_iconst (v := zI (-1)) hx hb dX6_refresh_98 (by decide +kernel) ?_
    obtain ⟨a41, a42, a43, a44, a45, a46, u47, u48, k49, hf⟩ := zb8_some hf
    refine zcVv (C := RX3) (As := [.int (zI 4), .int (zI 0), .int (zI 0), .int (zI (-1))]) (rest := []) hx hb hml hown hts hl.1 hK hH hA (c_X3_put hI hN  h_pl h_pl_kinds h_pl_differencesX h_pl_differencesY h_pl_owners h_pl_kindCounts h_pl_threads k49) zk_t2_81 zk_t2_61 zk_t2_62 zk_t1_2 zk_t2_63 hd_X3_put rfl ⟨rfl, rfl, Nat.le_of_ble_eq_true rfl, Nat.le_of_ble_eq_true rfl⟩ ⟨Nat.zero_le _, Nat.zero_le _⟩ hk_pl h_pl rfl rfl rfl (Nat.le_of_ble_eq_true rfl) dX6_refresh_99 (fun σ50 Hσ50 lσ50 hp hH => ?_)
    obtain ⟨h_pl, h_pl_kinds, h_pl_differencesX, h_pl_differencesY, h_pl_owners, h_pl_kindCounts, h_pl_threads, hn⟩ := hp
    have h_sp := (hn 0 (by decide) (by decide) (by decide) (by decide) (by decide) (by decide) (by decide)).trans h_sp
    have h_sp_fields := (hn 1 (by decide) (by decide) (by decide) (by decide) (by decide) (by decide) (by decide)).trans h_sp_fields
    have h_sp_waiting := (hn 2 (by decide) (by decide) (by decide) (by decide) (by decide) (by decide) (by decide)).trans h_sp_waiting
    have h_FF := zFF_keep (fun i hi => hn i (by omega) (by omega) (by omega) (by omega) (by omega) (by omega) (by omega)) h_FF
    have hbg : ∀ i : Nat, i < 19 → i ≠ 0 → i ≠ 2 → i ≠ 3 → i ≠ 4 → i ≠ 5 → i ≠ 6 → i ≠ 7 → i ≠ 8 → i ≠ 9 → σ50 i = σ0 i := fun i h46 a0 a1 a2 a3 a4 a5 a6 a7 a8 => (hn i a2 a3 a4 a5 a6 a7 a8).trans (hbg i h46 a0 a1 a2 a3 a4 a5 a6 a7 a8)
    refine lv_aload_n hx hb dX6_refresh_102 rfl (lv_at hl 0 rfl) ?_
    refine lv_iconst (v := zI 1) hx hb dX6_refresh_103 (by decide +kernel) ?_
    refine zput hx hb inlX6 tyX6 tyX6_ok nmX6 rfl 8 rfl zk_t1_157 rfl hts hown hK hH hk_sp h_sp (z_nar _ (Or.inr rfl)) (z_fit _ (Or.inr rfl)) rfl dX6_refresh_104 (fun σ51 Hσ51 lσ51 h_sp hn hH => ?_)
    have h_sp : σ51 0 = oC_sp ad sp_fieldCount sp_trimBound 1 := h_sp
    have h_sp_fields := (hn 1 (by decide)).trans h_sp_fields
    have h_sp_waiting := (hn 2 (by decide)).trans h_sp_waiting
    have h_pl := (hn 3 (by decide)).trans h_pl
    have h_pl_kinds := (hn 4 (by decide)).trans h_pl_kinds
    have h_pl_differencesX := (hn 5 (by decide)).trans h_pl_differencesX
    have h_pl_differencesY := (hn 6 (by decide)).trans h_pl_differencesY
    have h_pl_owners := (hn 7 (by decide)).trans h_pl_owners
    have h_pl_kindCounts := (hn 8 (by decide)).trans h_pl_kindCounts
    have h_pl_threads := (hn 9 (by decide)).trans h_pl_threads
    have h_FF := zFF_keep (fun i hi => hn i (by omega)) h_FF
    have hbg : ∀ i : Nat, i < 19 → i ≠ 0 → i ≠ 2 → i ≠ 3 → i ≠ 4 → i ≠ 5 → i ≠ 6 → i ≠ 7 → i ≠ 8 → i ≠ 9 → σ51 i = σ0 i := fun i h46 a0 a1 a2 a3 a4 a5 a6 a7 a8 => (hn i a0).trans (hbg i h46 a0 a1 a2 a3 a4 a5 a6 a7 a8)
    cases hf
    exact zretv hx hb hr hlocks hQ hH ⟨h_sp, h_sp_waiting, h_pl, h_pl_kinds, h_pl_differencesX, h_pl_differencesY, h_pl_owners, h_pl_kindCounts, h_pl_threads, h_FF, hbg⟩ dX6_refresh_107
  have L10 : ∀ (sp_planned : Int) (pl_kinds : Int → Int) (pl_differencesX : Int → Int) (pl_differencesY : Int → Int) (pl_owners : Int → Int) (pl_kindCounts : Int → Int) (pl_threads : Int → Int) (pl_size : Int) (pl_seconds : UInt32) (pl_needleX : Int) (pl_needleY : Int) (pl_colour : Int)  (n : Nat) (x1 : Int) (sp_waiting : Int → Int) (F_fd_crossings : Int → Int → Int) (F_fd_crossingCount : Int → Int) (F_fd_drawn : Int → Int) (F_pt_xs : Int → Int → Int) (F_pt_ys : Int → Int → Int) (F_pt_size : Int → Int) (x1' : Int) (sp_waiting' : Int → Int) (F_fd_crossings' : Int → Int → Int) (F_fd_crossingCount' : Int → Int) (F_fd_drawn' : Int → Int) (F_pt_xs' : Int → Int → Int) (F_pt_ys' : Int → Int → Int) (F_pt_size' : Int → Int), zlp (fun z => f_X6_refresh_L10 sp_trimBound sp_planned F_fd_colour F_fd_layer F_fd_column F_fd_cornerXs F_fd_cornerYs F_fd_cornerCount F_fd_density F_fd_length F_fd_shift F_fd_pull F_fd_underlay pl_kinds pl_differencesX pl_differencesY pl_owners pl_kindCounts pl_threads pl_size pl_seconds pl_needleX pl_needleY pl_colour nF z.1 z.2.1 z.2.2.1 z.2.2.2.1 z.2.2.2.2.1 z.2.2.2.2.2.1 z.2.2.2.2.2.2.1 z.2.2.2.2.2.2.2) n (x1, sp_waiting, F_fd_crossings, F_fd_crossingCount, F_fd_drawn, F_pt_xs, F_pt_ys, F_pt_size) = some (x1', sp_waiting', F_fd_crossings', F_fd_crossingCount', F_fd_drawn', F_pt_xs', F_pt_ys', F_pt_size') → ∀ (σ : Nat → va_E) (H : Heap) (locs : List Loc) (hH : zH D ad N (zFr ad N s.heap.size) s.heap σ H locs) (h_sp : σ 0 = oC_sp ad sp_fieldCount sp_trimBound sp_planned) (h_sp_fields : σ 1 = .inl (cF, 8, .inr (.inr (.inr (.inr (zFA ad nF)))))) (h_sp_waiting : σ 2 = .inl (cZ, 8, .inl (zA sp_waiting))) (h_pl : σ 3 = oC_pl ad pl_size pl_seconds pl_needleX pl_needleY pl_colour) (h_pl_kinds : σ 4 = .inl (cI, 16641, .inl (zA pl_kinds))) (h_pl_differencesX : σ 5 = .inl (cI, 16641, .inl (zA pl_differencesX))) (h_pl_differencesY : σ 6 = .inl (cI, 16641, .inl (zA pl_differencesY))) (h_pl_owners : σ 7 = .inl (cI, 16641, .inl (zA pl_owners))) (h_pl_kindCounts : σ 8 = .inl (cI, 5, .inl (zA pl_kindCounts))) (h_pl_threads : σ 9 = .inl (cI, 6, .inl (zA pl_threads))) (h_FF : zFF ad cI nF σ F_fd_colour F_fd_layer F_fd_column F_fd_cornerXs F_fd_cornerYs F_fd_crossings F_fd_cornerCount F_fd_crossingCount F_fd_density F_fd_length F_fd_shift F_fd_pull F_fd_underlay F_fd_drawn F_pt_xs F_pt_ys F_pt_size) (hbg : ∀ i : Nat, i < 19 → i ≠ 0 → i ≠ 2 → i ≠ 3 → i ≠ 4 → i ≠ 5 → i ≠ 6 → i ≠ 7 → i ≠ 8 → i ≠ 9 → σ i = σ0 i) (ls : Array Slot) (hl : lv_has ls 3 [(0, .ref (ad 0)), (1, .int (zI x1))]), (∀ (σ : Nat → va_E) (H : Heap) (locs : List Loc) (hH : zH D ad N (zFr ad N s.heap.size) s.heap σ H locs) (h_sp : σ 0 = oC_sp ad sp_fieldCount sp_trimBound sp_planned) (h_sp_fields : σ 1 = .inl (cF, 8, .inr (.inr (.inr (.inr (zFA ad nF)))))) (h_sp_waiting : σ 2 = .inl (cZ, 8, .inl (zA (sp_waiting')))) (h_pl : σ 3 = oC_pl ad pl_size pl_seconds pl_needleX pl_needleY pl_colour) (h_pl_kinds : σ 4 = .inl (cI, 16641, .inl (zA pl_kinds))) (h_pl_differencesX : σ 5 = .inl (cI, 16641, .inl (zA pl_differencesX))) (h_pl_differencesY : σ 6 = .inl (cI, 16641, .inl (zA pl_differencesY))) (h_pl_owners : σ 7 = .inl (cI, 16641, .inl (zA pl_owners))) (h_pl_kindCounts : σ 8 = .inl (cI, 5, .inl (zA pl_kindCounts))) (h_pl_threads : σ 9 = .inl (cI, 6, .inl (zA pl_threads))) (h_FF : zFF ad cI nF σ F_fd_colour F_fd_layer F_fd_column F_fd_cornerXs F_fd_cornerYs (F_fd_crossings') F_fd_cornerCount (F_fd_crossingCount') F_fd_density F_fd_length F_fd_shift F_fd_pull F_fd_underlay (F_fd_drawn') (F_pt_xs') (F_pt_ys') (F_pt_size')) (hbg : ∀ i : Nat, i < 19 → i ≠ 0 → i ≠ 2 → i ≠ 3 → i ≠ 4 → i ≠ 5 → i ≠ 6 → i ≠ 7 → i ≠ 8 → i ≠ 9 → σ i = σ0 i) (ls : Array Slot) (hl : lv_has ls 3 [(0, .ref (ad 0))]), W p l e rmX6_refresh s m args below meth c H locs 0 0 Q (F0 m 66 ls [])) → W p l e rmX6_refresh s m args below meth c H locs 0 0 Q (F0 m 10 ls []) := by
    intro sp_planned pl_kinds pl_differencesX pl_differencesY pl_owners pl_kindCounts pl_threads pl_size pl_seconds pl_needleX pl_needleY pl_colour n
    induction n with
    | zero => intro x1 sp_waiting F_fd_crossings F_fd_crossingCount F_fd_drawn F_pt_xs F_pt_ys F_pt_size x1' sp_waiting' F_fd_crossings' F_fd_crossingCount' F_fd_drawn' F_pt_xs' F_pt_ys' F_pt_size' hz; exact (zlp_0 hz).elim
    | succ n ih =>
      intro x1 sp_waiting F_fd_crossings F_fd_crossingCount F_fd_drawn F_pt_xs F_pt_ys F_pt_size x1' sp_waiting' F_fd_crossings' F_fd_crossingCount' F_fd_drawn' F_pt_xs' F_pt_ys' F_pt_size' hz σ H locs hH h_sp h_sp_fields h_sp_waiting h_pl h_pl_kinds h_pl_differencesX h_pl_differencesY h_pl_owners h_pl_kindCounts h_pl_threads h_FF hbg ls hl kx
      obtain ⟨nx, hf, hnx⟩ := zlp_some hz
      have hf : f_X6_refresh_L10 sp_trimBound sp_planned F_fd_colour F_fd_layer F_fd_column F_fd_cornerXs F_fd_cornerYs F_fd_cornerCount F_fd_density F_fd_length F_fd_shift F_fd_pull F_fd_underlay pl_kinds pl_differencesX pl_differencesY pl_owners pl_kindCounts pl_threads pl_size pl_seconds pl_needleX pl_needleY pl_colour nF x1 sp_waiting F_fd_crossings F_fd_crossingCount F_fd_drawn F_pt_xs F_pt_ys F_pt_size = some nx := hf
      have JL10_59 : ∀ (sp_waiting : Int → Int) (F_fd_crossings : Int → Int → Int) (F_fd_crossingCount : Int → Int) (F_fd_drawn : Int → Int) (F_pt_xs : Int → Int → Int) (F_pt_ys : Int → Int → Int) (F_pt_size : Int → Int) (x1 : Int) (s1 : Int) (s2 : Int) (σ : Nat → va_E) (H : Heap) (locs : List Loc) (hH : zH D ad N (zFr ad N s.heap.size) s.heap σ H locs) (h_sp : σ 0 = oC_sp ad sp_fieldCount sp_trimBound sp_planned) (h_sp_fields : σ 1 = .inl (cF, 8, .inr (.inr (.inr (.inr (zFA ad nF)))))) (h_sp_waiting : σ 2 = .inl (cZ, 8, .inl (zA sp_waiting))) (h_pl : σ 3 = oC_pl ad pl_size pl_seconds pl_needleX pl_needleY pl_colour) (h_pl_kinds : σ 4 = .inl (cI, 16641, .inl (zA pl_kinds))) (h_pl_differencesX : σ 5 = .inl (cI, 16641, .inl (zA pl_differencesX))) (h_pl_differencesY : σ 6 = .inl (cI, 16641, .inl (zA pl_differencesY))) (h_pl_owners : σ 7 = .inl (cI, 16641, .inl (zA pl_owners))) (h_pl_kindCounts : σ 8 = .inl (cI, 5, .inl (zA pl_kindCounts))) (h_pl_threads : σ 9 = .inl (cI, 6, .inl (zA pl_threads))) (h_FF : zFF ad cI nF σ F_fd_colour F_fd_layer F_fd_column F_fd_cornerXs F_fd_cornerYs F_fd_crossings F_fd_cornerCount F_fd_crossingCount F_fd_density F_fd_length F_fd_shift F_fd_pull F_fd_underlay F_fd_drawn F_pt_xs F_pt_ys F_pt_size) (hbg : ∀ i : Nat, i < 19 → i ≠ 0 → i ≠ 2 → i ≠ 3 → i ≠ 4 → i ≠ 5 → i ≠ 6 → i ≠ 7 → i ≠ 8 → i ≠ 9 → σ i = σ0 i) (ls : Array Slot) (hl : lv_has ls 3 [(0, .ref (ad 0)), (1, .int (zI x1))]), f_X6_refresh_L10_59 sp_waiting sp_trimBound sp_planned F_fd_colour F_fd_layer F_fd_column F_fd_cornerXs F_fd_cornerYs F_fd_crossings F_fd_cornerCount F_fd_crossingCount F_fd_density F_fd_length F_fd_shift F_fd_pull F_fd_underlay F_fd_drawn F_pt_xs F_pt_ys F_pt_size pl_kinds pl_differencesX pl_differencesY pl_owners pl_kindCounts pl_threads pl_size pl_seconds pl_needleX pl_needleY pl_colour nF x1 s1 s2 = some nx → W p l e rmX6_refresh s m args below meth c H locs 0 0 Q (F0 m 59 ls [.int (zI s2), .int (zI s1), .ref (ad 2)]) := by
        intro sp_waiting F_fd_crossings F_fd_crossingCount F_fd_drawn F_pt_xs F_pt_ys F_pt_size x1 s1 s2 σ H locs hH h_sp h_sp_fields h_sp_waiting h_pl h_pl_kinds h_pl_differencesX h_pl_differencesY h_pl_owners h_pl_kindCounts h_pl_threads h_FF hbg ls hl hf
        unfold f_X6_refresh_L10_59 at hf
        obtain ⟨k52, hf⟩ := zck_some hf
        obtain ⟨k53, hf⟩ := zck_some hf
        obtain ⟨a55, ea55, hf⟩ := zlt_some hf
        refine zzast hx hb hK hH hk_sp_waiting 1 h_sp_waiting rfl k52 k53 rfl dX6_refresh_59 (fun σ54 Hσ54 lσ54 h_sp_waiting hn hH => ?_)
        rw [← ea55] at h_sp_waiting
        have h_sp := (hn 0 (by decide)).trans h_sp
        have h_sp_fields := (hn 1 (by decide)).trans h_sp_fields
        have h_pl := (hn 3 (by decide)).trans h_pl
        have h_pl_kinds := (hn 4 (by decide)).trans h_pl_kinds
        have h_pl_differencesX := (hn 5 (by decide)).trans h_pl_differencesX
        have h_pl_differencesY := (hn 6 (by decide)).trans h_pl_differencesY
        have h_pl_owners := (hn 7 (by decide)).trans h_pl_owners
        have h_pl_kindCounts := (hn 8 (by decide)).trans h_pl_kindCounts
        have h_pl_threads := (hn 9 (by decide)).trans h_pl_threads
        have h_FF := zFF_keep (fun i hi => hn i (by omega)) h_FF
        have hbg : ∀ i : Nat, i < 19 → i ≠ 0 → i ≠ 2 → i ≠ 3 → i ≠ 4 → i ≠ 5 → i ≠ 6 → i ≠ 7 → i ≠ 8 → i ≠ 9 → σ54 i = σ0 i := fun i h46 a0 a1 a2 a3 a4 a5 a6 a7 a8 => (hn i a1).trans (hbg i h46 a0 a1 a2 a3 a4 a5 a6 a7 a8)
        refine lz_iinc (lv' := [(1, .int (zI (x1 + 1))), (0, .ref (ad 0))]) hx hb dX6_refresh_60 hl (j := 1) rfl (by decide) rfl (fun ls hl => ?_)
        refine lv_goto (tgt := 10) hx hb dX6_refresh_63 (by decide) ?_
        cases hf
        exact ih (x1 + 1) a55 F_fd_crossings F_fd_crossingCount F_fd_drawn F_pt_xs F_pt_ys F_pt_size _ _ _ _ _ _ _ _ hnx _ _ _ hH h_sp h_sp_fields h_sp_waiting h_pl h_pl_kinds h_pl_differencesX h_pl_differencesY h_pl_owners h_pl_kindCounts h_pl_threads h_FF hbg _ (lv_sub hl [1, 0] rfl) kx
      have JL10_58 : ∀ (sp_waiting : Int → Int) (F_fd_crossings : Int → Int → Int) (F_fd_crossingCount : Int → Int) (F_fd_drawn : Int → Int) (F_pt_xs : Int → Int → Int) (F_pt_ys : Int → Int → Int) (F_pt_size : Int → Int) (x1 : Int) (s1 : Int) (σ : Nat → va_E) (H : Heap) (locs : List Loc) (hH : zH D ad N (zFr ad N s.heap.size) s.heap σ H locs) (h_sp : σ 0 = oC_sp ad sp_fieldCount sp_trimBound sp_planned) (h_sp_fields : σ 1 = .inl (cF, 8, .inr (.inr (.inr (.inr (zFA ad nF)))))) (h_sp_waiting : σ 2 = .inl (cZ, 8, .inl (zA sp_waiting))) (h_pl : σ 3 = oC_pl ad pl_size pl_seconds pl_needleX pl_needleY pl_colour) (h_pl_kinds : σ 4 = .inl (cI, 16641, .inl (zA pl_kinds))) (h_pl_differencesX : σ 5 = .inl (cI, 16641, .inl (zA pl_differencesX))) (h_pl_differencesY : σ 6 = .inl (cI, 16641, .inl (zA pl_differencesY))) (h_pl_owners : σ 7 = .inl (cI, 16641, .inl (zA pl_owners))) (h_pl_kindCounts : σ 8 = .inl (cI, 5, .inl (zA pl_kindCounts))) (h_pl_threads : σ 9 = .inl (cI, 6, .inl (zA pl_threads))) (h_FF : zFF ad cI nF σ F_fd_colour F_fd_layer F_fd_column F_fd_cornerXs F_fd_cornerYs F_fd_crossings F_fd_cornerCount F_fd_crossingCount F_fd_density F_fd_length F_fd_shift F_fd_pull F_fd_underlay F_fd_drawn F_pt_xs F_pt_ys F_pt_size) (hbg : ∀ i : Nat, i < 19 → i ≠ 0 → i ≠ 2 → i ≠ 3 → i ≠ 4 → i ≠ 5 → i ≠ 6 → i ≠ 7 → i ≠ 8 → i ≠ 9 → σ i = σ0 i) (ls : Array Slot) (hl : lv_has ls 3 [(0, .ref (ad 0)), (1, .int (zI x1))]), f_X6_refresh_L10_58 sp_waiting sp_trimBound sp_planned F_fd_colour F_fd_layer F_fd_column F_fd_cornerXs F_fd_cornerYs F_fd_crossings F_fd_cornerCount F_fd_crossingCount F_fd_density F_fd_length F_fd_shift F_fd_pull F_fd_underlay F_fd_drawn F_pt_xs F_pt_ys F_pt_size pl_kinds pl_differencesX pl_differencesY pl_owners pl_kindCounts pl_threads pl_size pl_seconds pl_needleX pl_needleY pl_colour nF x1 s1 = some nx → W p l e rmX6_refresh s m args below meth c H locs 0 0 Q (F0 m 58 ls [.int (zI s1), .ref (ad 2)]) := by
        intro sp_waiting F_fd_crossings F_fd_crossingCount F_fd_drawn F_pt_xs F_pt_ys F_pt_size x1 s1 σ H locs hH h_sp h_sp_fields h_sp_waiting h_pl h_pl_kinds h_pl_differencesX h_pl_differencesY h_pl_owners h_pl_kindCounts h_pl_threads h_FF hbg ls hl hf
        unfold f_X6_refresh_L10_58 at hf
        refine lv_iconst (v := zI 0) hx hb dX6_refresh_58 (by decide +kernel) ?_
        exact JL10_59 sp_waiting F_fd_crossings F_fd_crossingCount F_fd_drawn F_pt_xs F_pt_ys F_pt_size x1 s1 0 _ _ _ hH h_sp h_sp_fields h_sp_waiting h_pl h_pl_kinds h_pl_differencesX h_pl_differencesY h_pl_owners h_pl_kindCounts h_pl_threads h_FF hbg _ (lv_sub hl [0, 1] rfl) hf
      unfold f_X6_refresh_L10 at hf
      refine lv_iload_n hx hb dX6_refresh_10 rfl (lv_at hl 1 rfl) ?_
      refine lv_aload_n hx hb dX6_refresh_11 rfl (lv_at hl 0 rfl) ?_
      refine zget hx hb inlX6 rfl 1 rfl zk_t1_150 hts hown hK hH hk_sp h_sp rfl dX6_refresh_12 ?_
      refine zalen (z := 8) hx hb hK hH hk_sp_waiting 1 h_sp_waiting rfl (show Int32.ofNat 8 = zI 8 by decide +kernel) dX6_refresh_15 ?_
      obtain ⟨k56, hf⟩ := zck_some hf
      refine lz_icmp_ge (tgt := 66) hx hb ⟨k56, by decide⟩ dX6_refresh_16 (by decide) (fun c57 => ?_) (fun c57 => ?_)
      · replace hf := (if_pos c57).symm.trans hf
        cases hf
        cases hnx
        exact kx _ _ _ hH h_sp h_sp_fields h_sp_waiting h_pl h_pl_kinds h_pl_differencesX h_pl_differencesY h_pl_owners h_pl_kindCounts h_pl_threads h_FF hbg _ (lv_sub hl [0] rfl)
      · replace hf := (if_neg c57).symm.trans hf
        refine lv_iload_n hx hb dX6_refresh_19 rfl (lv_at hl 1 rfl) ?_
        refine lv_aload_n hx hb dX6_refresh_20 rfl (lv_at hl 0 rfl) ?_
        refine zget hx hb inlX6 rfl 0 rfl zk_t1_149 hts hown hK hH hk_sp h_sp rfl dX6_refresh_21 ?_
        refine zalen (z := 8) hx hb hK hH hk_sp_fields 2 h_sp_fields rfl (show Int32.ofNat 8 = zI 8 by decide +kernel) dX6_refresh_24 ?_
        obtain ⟨k58, hf⟩ := zck_some hf
        refine lz_icmp_ge (tgt := 66) hx hb ⟨k58, by decide⟩ dX6_refresh_25 (by decide) (fun c59 => ?_) (fun c59 => ?_)
        · replace hf := (if_pos c59).symm.trans hf
          cases hf
          cases hnx
          exact kx _ _ _ hH h_sp h_sp_fields h_sp_waiting h_pl h_pl_kinds h_pl_differencesX h_pl_differencesY h_pl_owners h_pl_kindCounts h_pl_threads h_FF hbg _ (lv_sub hl [0] rfl)
        · replace hf := (if_neg c59).symm.trans hf
          refine lv_aload_n hx hb dX6_refresh_28 rfl (lv_at hl 0 rfl) ?_
          refine zget hx hb inlX6 rfl 0 rfl zk_t1_149 hts hown hK hH hk_sp h_sp rfl dX6_refresh_29 ?_
          refine lv_iload_n hx hb dX6_refresh_32 rfl (lv_at hl 1 rfl) ?_
          obtain ⟨k60, hf⟩ := zck_some hf
          refine zaald hx hb hK hH hk_sp_fields 2 h_sp_fields rfl k60 rfl dX6_refresh_33 ?_
          refine lz_astore_nq (lv' := [(2, va_rf (zfo ad nF x1)), (0, .ref (ad 0)), (1, .int (zI x1))]) hx hb dX6_refresh_34 rfl hl (by decide) rfl (fun ls hl => ?_)
          refine lv_aload_n hx hb dX6_refresh_35 rfl (lv_at hl 1 rfl) ?_
          refine zget hx hb inlX6 rfl 1 rfl zk_t1_150 hts hown hK hH hk_sp h_sp rfl dX6_refresh_36 ?_
          refine lv_iload_n hx hb dX6_refresh_39 rfl (lv_at hl 2 rfl) ?_
          refine lz_aload_nq hx hb dX6_refresh_40 rfl (lv_at hl 0 rfl) ?_
          refine lz_ifnull (tgt := 58) hx hb dX6_refresh_41 (by decide) (fun c61 => ?_) (fun c61 => ?_)
          · replace hf := (if_neg c61).symm.trans hf
            exact JL10_58 sp_waiting F_fd_crossings F_fd_crossingCount F_fd_drawn F_pt_xs F_pt_ys F_pt_size x1 x1 _ _ _ hH h_sp h_sp_fields h_sp_waiting h_pl h_pl_kinds h_pl_differencesX h_pl_differencesY h_pl_owners h_pl_kindCounts h_pl_threads h_FF hbg _ (lv_sub hl [1, 2] rfl) hf
          · replace hf := (if_pos c61).symm.trans hf
            refine lz_aload_nq hx hb dX6_refresh_44 rfl (lv_at hl 0 rfl) ?_
            obtain ⟨k62, hf⟩ := zck_some hf
            refine lz_deref k62 ?_
            obtain ⟨k63, hf⟩ := zck_some hf
            obtain ⟨h_fd, h_fd_cornerXs, h_fd_cornerYs, h_fd_crossings, h_pt, h_pt_xs, h_pt_ys⟩ := h_FF x1 k63.1 k63.2
            obtain ⟨a64, u65, u66, a67, a68, u69, k70, hf⟩ := zb6_some hf
            refine zcVq (C := RX0) (As := []) (rest := [.int (zI x1), .ref (ad 2)]) hx hb hml hown hts hl.1 hK hH hA (c_X0_needlePoints hI hN ⟨fB_ge _, fB_le hNF k63⟩ h_fd h_fd_cornerXs h_fd_cornerYs h_fd_crossings h_pt h_pt_xs h_pt_ys k70) zk_t1_197 zk_t1_198 zk_t1_199 zk_t1_13 zk_t1_200 hd_X0_needlePoints rfl ⟨rfl, rfl, Nat.le_of_ble_eq_true rfl, Nat.le_of_ble_eq_true rfl⟩ ⟨Nat.zero_le _, Nat.zero_le _⟩ (fB_lt hNF k63 0 (by decide)) h_fd rfl rfl rfl (Nat.le_of_ble_eq_true rfl) dX6_refresh_45 (fun q72 σ71 Hσ71 lσ71 hp hH => ?_)
            obtain ⟨hr1, h_fd, h_fd_crossings, h_pt, h_pt_xs, h_pt_ys, hn⟩ := hp
            subst hr1
            obtain ⟨b73, eb73, hf⟩ := zlt_some hf
            obtain ⟨b74, eb74, hf⟩ := zlt_some hf
            obtain ⟨b75, eb75, hf⟩ := zlt_some hf
            obtain ⟨b76, eb76, hf⟩ := zlt_some hf
            obtain ⟨b77, eb77, hf⟩ := zlt_some hf
            obtain ⟨b78, eb78, hf⟩ := zlt_some hf
            have h_FF : zFF ad cI nF σ71 F_fd_colour F_fd_layer F_fd_column F_fd_cornerXs F_fd_cornerYs b73 F_fd_cornerCount b74 F_fd_density F_fd_length F_fd_shift F_fd_pull F_fd_underlay b75 b76 b77 b78 := zFF_upd (x := x1) k63.1 (fun i h46 hi => hn i (by omega) (by omega) (by omega) (by omega) (by omega)) h_FF (fun _ _ => rfl) (fun _ _ => rfl) (fun _ _ => rfl) (fun _ _ => rfl) (fun _ _ => rfl) (fun z hz => by rw [eb73]; exact zup_n hz) (fun _ _ => rfl) (fun z hz => by rw [eb74]; exact zup_n hz) (fun _ _ => rfl) (fun _ _ => rfl) (fun _ _ => rfl) (fun _ _ => rfl) (fun _ _ => rfl) (fun z hz => by rw [eb75]; exact zup_n hz) (fun z hz => by rw [eb76]; exact zup_n hz) (fun z hz => by rw [eb77]; exact zup_n hz) (fun z hz => by rw [eb78]; exact zup_n hz) (by (try simp only [eb73, eb74, eb75, eb76, eb77, eb78, zup_s]); exact h_fd) (by (try simp only [eb73, eb74, eb75, eb76, eb77, eb78, zup_s]); exact (hn (fB x1 + 1) (by omega) (by omega) (by omega) (by omega) (by omega)).trans h_fd_cornerXs) (by (try simp only [eb73, eb74, eb75, eb76, eb77, eb78, zup_s]); exact (hn (fB x1 + 2) (by omega) (by omega) (by omega) (by omega) (by omega)).trans h_fd_cornerYs) (by (try simp only [eb73, eb74, eb75, eb76, eb77, eb78, zup_s]); exact h_fd_crossings) (by (try simp only [eb73, eb74, eb75, eb76, eb77, eb78, zup_s]); exact h_pt) (by (try simp only [eb73, eb74, eb75, eb76, eb77, eb78, zup_s]); exact h_pt_xs) (by (try simp only [eb73, eb74, eb75, eb76, eb77, eb78, zup_s]); exact h_pt_ys)
            have h_sp := (hn 0 (by have := fB_ge x1; omega) (by have := fB_ge x1; omega) (by have := fB_ge x1; omega) (by have := fB_ge x1; omega) (by have := fB_ge x1; omega)).trans h_sp
            have h_sp_fields := (hn 1 (by have := fB_ge x1; omega) (by have := fB_ge x1; omega) (by have := fB_ge x1; omega) (by have := fB_ge x1; omega) (by have := fB_ge x1; omega)).trans h_sp_fields
            have h_sp_waiting := (hn 2 (by have := fB_ge x1; omega) (by have := fB_ge x1; omega) (by have := fB_ge x1; omega) (by have := fB_ge x1; omega) (by have := fB_ge x1; omega)).trans h_sp_waiting
            have h_pl := (hn 3 (by have := fB_ge x1; omega) (by have := fB_ge x1; omega) (by have := fB_ge x1; omega) (by have := fB_ge x1; omega) (by have := fB_ge x1; omega)).trans h_pl
            have h_pl_kinds := (hn 4 (by have := fB_ge x1; omega) (by have := fB_ge x1; omega) (by have := fB_ge x1; omega) (by have := fB_ge x1; omega) (by have := fB_ge x1; omega)).trans h_pl_kinds
            have h_pl_differencesX := (hn 5 (by have := fB_ge x1; omega) (by have := fB_ge x1; omega) (by have := fB_ge x1; omega) (by have := fB_ge x1; omega) (by have := fB_ge x1; omega)).trans h_pl_differencesX
            have h_pl_differencesY := (hn 6 (by have := fB_ge x1; omega) (by have := fB_ge x1; omega) (by have := fB_ge x1; omega) (by have := fB_ge x1; omega) (by have := fB_ge x1; omega)).trans h_pl_differencesY
            have h_pl_owners := (hn 7 (by have := fB_ge x1; omega) (by have := fB_ge x1; omega) (by have := fB_ge x1; omega) (by have := fB_ge x1; omega) (by have := fB_ge x1; omega)).trans h_pl_owners
            have h_pl_kindCounts := (hn 8 (by have := fB_ge x1; omega) (by have := fB_ge x1; omega) (by have := fB_ge x1; omega) (by have := fB_ge x1; omega) (by have := fB_ge x1; omega)).trans h_pl_kindCounts
            have h_pl_threads := (hn 9 (by have := fB_ge x1; omega) (by have := fB_ge x1; omega) (by have := fB_ge x1; omega) (by have := fB_ge x1; omega) (by have := fB_ge x1; omega)).trans h_pl_threads
            have hbg : ∀ i : Nat, i < 19 → i ≠ 0 → i ≠ 2 → i ≠ 3 → i ≠ 4 → i ≠ 5 → i ≠ 6 → i ≠ 7 → i ≠ 8 → i ≠ 9 → σ71 i = σ0 i := fun i h46 a0 a1 a2 a3 a4 a5 a6 a7 a8 => (hn i (by have := fB_ge x1; omega) (by have := fB_ge x1; omega) (by have := fB_ge x1; omega) (by have := fB_ge x1; omega) (by have := fB_ge x1; omega)).trans (hbg i h46 a0 a1 a2 a3 a4 a5 a6 a7 a8)
            obtain ⟨k79, hf⟩ := zck_some hf
            obtain ⟨h_fd, h_fd_cornerXs, h_fd_cornerYs, h_fd_crossings, h_pt, h_pt_xs, h_pt_ys⟩ := h_FF x1 k79.1 k79.2
            refine zget hx hb inlX4 rfl 2 rfl zk_t3_82 hts hown hK hH (fB_lt hNF k79 4 (by decide)) h_pt rfl dX6_refresh_48 ?_
            obtain ⟨k80, hf⟩ := zck_some hf
            refine lz_if_le (tgt := 58) hx hb k80 dX6_refresh_51 (by decide) (fun c81 => ?_) (fun c81 => ?_)
            · replace hf := (if_pos c81).symm.trans hf
              exact JL10_58 sp_waiting b73 b74 b75 b76 b77 b78 x1 x1 _ _ _ hH h_sp h_sp_fields h_sp_waiting h_pl h_pl_kinds h_pl_differencesX h_pl_differencesY h_pl_owners h_pl_kindCounts h_pl_threads h_FF hbg _ (lv_sub hl [1, 2] rfl) hf
            · replace hf := (if_neg c81).symm.trans hf
              refine lv_iconst (v := zI 1) hx hb dX6_refresh_54 (by decide +kernel) ?_
              refine lv_goto (tgt := 59) hx hb dX6_refresh_55 (by decide) ?_
              exact JL10_59 sp_waiting b73 b74 b75 b76 b77 b78 x1 x1 1 _ _ _ hH h_sp h_sp_fields h_sp_waiting h_pl h_pl_kinds h_pl_differencesX h_pl_differencesY h_pl_owners h_pl_kindCounts h_pl_threads h_FF hbg _ (lv_sub hl [1, 2] rfl) hf
  unfold f_X6_refresh at hf
  refine lv_aload_n hx hb dX6_refresh_0 rfl (lv_at hl 0 rfl) ?_
  refine zget hx hb inlX6 rfl 8 rfl zk_t1_157 hts hown hK hH hk_sp h_sp rfl dX6_refresh_1 ?_
  obtain ⟨k82, hf⟩ := zck_some hf
  refine lz_if_eq (tgt := 8) hx hb k82 dX6_refresh_4 (by decide) (fun c83 => ?_) (fun c83 => ?_)
  · replace hf := (if_pos c83).symm.trans hf
    refine lv_iconst (v := zI 0) hx hb dX6_refresh_8 (by decide +kernel) ?_
    refine lv_istore_n (lv' := [(1, .int (zI 0)), (0, .ref (ad 0))]) hx hb dX6_refresh_9 rfl hl (by decide) rfl (fun ls hl => ?_)
    obtain ⟨w85, w86, w87, w88, w89, w90, w91, w92, k84, hf⟩ := zb8_some hf
    refine L10 sp_planned pl_kinds pl_differencesX pl_differencesY pl_owners pl_kindCounts pl_threads pl_size pl_seconds pl_needleX pl_needleY pl_colour zFU 0 sp_waiting F_fd_crossings F_fd_crossingCount F_fd_drawn F_pt_xs F_pt_ys F_pt_size w85 w86 w87 w88 w89 w90 w91 w92 k84 _ _ _ hH h_sp h_sp_fields h_sp_waiting h_pl h_pl_kinds h_pl_differencesX h_pl_differencesY h_pl_owners h_pl_kindCounts h_pl_threads h_FF hbg _ (lv_sub hl [1, 0] rfl) (fun σ93 Hσ93 lσ93 hH h_sp h_sp_fields h_sp_waiting h_pl h_pl_kinds h_pl_differencesX h_pl_differencesY h_pl_owners h_pl_kindCounts h_pl_threads h_FF hbg ls hl => ?_)
    exact J66 w86 sp_planned w87 w88 w89 w90 w91 w92 pl_kinds pl_differencesX pl_differencesY pl_owners pl_kindCounts pl_threads pl_size pl_seconds pl_needleX pl_needleY pl_colour _ _ _ hH h_sp h_sp_fields h_sp_waiting h_pl h_pl_kinds h_pl_differencesX h_pl_differencesY h_pl_owners h_pl_kindCounts h_pl_threads h_FF hbg _ (lv_sub hl [0] rfl) hf
  · replace hf := (if_neg c83).symm.trans hf
    cases hf
    exact zretv hx hb hr hlocks hQ hH ⟨h_sp, h_sp_waiting, h_pl, h_pl_kinds, h_pl_differencesX, h_pl_differencesY, h_pl_owners, h_pl_kindCounts, h_pl_threads, h_FF, hbg⟩ dX6_refresh_7
abbrev rmX6_fieldNumbered : Room := { frames := 6, cells := 1, slots := 6, locals := 92 }
theorem hd_X6_fieldNumbered : yX6_fieldNumbered.cls = RX6 ∧ yX6_fieldNumbered.cls ≠ "java/lang/invoke/MethodHandle" ∧ yX6_fieldNumbered.cls ≠ "java/lang/invoke/VarHandle" ∧ (parseMethodDescriptor yX6_fieldNumbered.desc).map (fun d => d.parameters.length) = some 1 := by decide +kernel
set_option maxHeartbeats 4000000 in
set_option maxRecDepth 100000 in
theorem c_X6_fieldNumbered {l : Launch} {D : va_G} {cI cZ cF cL cD : ClassId} {ad : Nat → Nat} {N : Nat} (hI : ∀ i j, i < N → j < N → ad i = ad j → i = j) (hN : 19 ≤ N) {nF : Int} (hNF : N = 19 + 7 * nF.toNat) (hst : l.stackTraces = false) {σ0 : Nat → va_E} {sz : Nat} {sp_fieldCount : Int} {sp_trimBound : Int} {sp_planned : Int} {p1 : Int} {Rt : Int} {R0 : Int} (h_sp : σ0 0 = oC_sp ad sp_fieldCount sp_trimBound sp_planned) (h_sp_fields : σ0 1 = .inl (cF, 8, .inr (.inr (.inr (.inr (zFA ad nF)))))) (hf : f_X6_fieldNumbered sp_fieldCount nF p1 = some (Rt, R0)) :
    vx_Met l yX6_fieldNumbered (Cond.code yX6_fieldNumbered cX6_fieldNumbered 3 (some (.object "Stitchpath$Field")) :: wsL_law) rmX6_fieldNumbered (zPreX D ad N (zT cI cZ cF cL cD) σ0 sz [.ref (ad 0), .int (zI p1)]) (zQq D ad N sz (fun r σ' => Rt = 0 ∧ r = some (ad (fB R0)) ∧ σ' = σ0)) (zXC D ad N sz Rt (fun σ' => σ' = σ0)) 1 6 (zFr ad N sz) := by
  refine zMetX hI (by decide) (Nat.le_of_ble_eq_true rfl) ?_
  intro p e s m args below meth c Q hx hb hr hlocks hml hown hts hnh hK hX hsz hQ hH hA ls hl
  subst hsz
  have hk_sp : 0 < N := by omega
  have hk_sp_fields : 1 < N := by omega
  have hl : lv_has ls 3 [(0, .ref (ad 0)), (1, .int (zI p1))] := hl
  have hbg : σ0 = σ0 := rfl
  unfold f_X6_fieldNumbered at hf
  refine lv_iload_n hx hb dX6_fieldNumbered_0 rfl (lv_at hl 1 rfl) ?_
  obtain ⟨k1, hf⟩ := zck_some hf
  refine lz_if_lt (tgt := 21) hx hb k1 dX6_fieldNumbered_1 (by decide) (fun c2 => ?_) (fun c2 => ?_)
  · replace hf := (if_pos c2).symm.trans hf
    cases hf
    exact zthr_i hx hb hst hQ hnh hlocks hown hts zk_t2_90 zk_t1_10 hX (is := 241) (text := "there is no such field") (by decide +kernel) (hl.1.trans hml.symm) hH hbg ⟨by decide, by decide, by decide, by decide⟩ ⟨by decide, by decide⟩ dX6_fieldNumbered_21 dX6_fieldNumbered_24 dX6_fieldNumbered_25 dX6_fieldNumbered_27 dX6_fieldNumbered_30
  · replace hf := (if_neg c2).symm.trans hf
    refine lv_iload_n hx hb dX6_fieldNumbered_4 rfl (lv_at hl 1 rfl) ?_
    refine lv_aload_n hx hb dX6_fieldNumbered_5 rfl (lv_at hl 0 rfl) ?_
    refine zget hx hb inlX6 rfl 6 rfl zk_t1_155 hts hown hK hH hk_sp h_sp rfl dX6_fieldNumbered_6 ?_
    obtain ⟨k3, hf⟩ := zck_some hf
    refine lz_icmp_ge (tgt := 21) hx hb k3 dX6_fieldNumbered_9 (by decide) (fun c4 => ?_) (fun c4 => ?_)
    · replace hf := (if_pos c4).symm.trans hf
      cases hf
      exact zthr_i hx hb hst hQ hnh hlocks hown hts zk_t2_90 zk_t1_10 hX (is := 241) (text := "there is no such field") (by decide +kernel) (hl.1.trans hml.symm) hH hbg ⟨by decide, by decide, by decide, by decide⟩ ⟨by decide, by decide⟩ dX6_fieldNumbered_21 dX6_fieldNumbered_24 dX6_fieldNumbered_25 dX6_fieldNumbered_27 dX6_fieldNumbered_30
    · replace hf := (if_neg c4).symm.trans hf
      refine lv_iload_n hx hb dX6_fieldNumbered_12 rfl (lv_at hl 1 rfl) ?_
      refine lv_aload_n hx hb dX6_fieldNumbered_13 rfl (lv_at hl 0 rfl) ?_
      refine zget hx hb inlX6 rfl 0 rfl zk_t1_149 hts hown hK hH hk_sp h_sp rfl dX6_fieldNumbered_14 ?_
      refine zalen (z := 8) hx hb hK hH hk_sp_fields 2 h_sp_fields rfl (show Int32.ofNat 8 = zI 8 by decide +kernel) dX6_fieldNumbered_17 ?_
      obtain ⟨k5, hf⟩ := zck_some hf
      refine lz_icmp_lt (tgt := 31) hx hb ⟨k5, by decide⟩ dX6_fieldNumbered_18 (by decide) (fun c6 => ?_) (fun c6 => ?_)
      · replace hf := (if_pos c6).symm.trans hf
        refine lv_aload_n hx hb dX6_fieldNumbered_31 rfl (lv_at hl 0 rfl) ?_
        refine zget hx hb inlX6 rfl 0 rfl zk_t1_149 hts hown hK hH hk_sp h_sp rfl dX6_fieldNumbered_32 ?_
        refine lv_iload_n hx hb dX6_fieldNumbered_35 rfl (lv_at hl 1 rfl) ?_
        obtain ⟨k7, hf⟩ := zck_some hf
        refine zaald hx hb hK hH hk_sp_fields 2 h_sp_fields rfl k7 rfl dX6_fieldNumbered_36 ?_
        refine lz_astore_nq (lv' := [(2, va_rf (zfo ad nF p1)), (0, .ref (ad 0)), (1, .int (zI p1))]) hx hb dX6_fieldNumbered_37 rfl hl (by decide) rfl (fun ls hl => ?_)
        refine lz_aload_nq hx hb dX6_fieldNumbered_38 rfl (lv_at hl 0 rfl) ?_
        refine lz_ifnonnull (tgt := 52) hx hb dX6_fieldNumbered_39 (by decide) (fun c8 => ?_) (fun c8 => ?_)
        · replace hf := (if_pos c8).symm.trans hf
          refine lz_aload_nq hx hb dX6_fieldNumbered_52 rfl (lv_at hl 0 rfl) ?_
          obtain ⟨k9, hf⟩ := zck_some hf
          refine lz_deref k9 ?_
          cases hf
          exact zxretq hx hb hr (Or.inl ⟨_, rfl⟩) hlocks hQ hH ⟨rfl, rfl, hbg⟩ ⟨by decide, by decide⟩ dX6_fieldNumbered_53
        · replace hf := (if_neg c8).symm.trans hf
          cases hf
          exact zthr_i hx hb hst hQ hnh hlocks hown hts zk_t2_90 zk_t1_10 hX (is := 241) (text := "there is no such field") (by decide +kernel) (hl.1.trans hml.symm) hH hbg ⟨by decide, by decide, by decide, by decide⟩ ⟨by decide, by decide⟩ dX6_fieldNumbered_42 dX6_fieldNumbered_45 dX6_fieldNumbered_46 dX6_fieldNumbered_48 dX6_fieldNumbered_51
      · replace hf := (if_neg c6).symm.trans hf
        cases hf
        exact zthr_i hx hb hst hQ hnh hlocks hown hts zk_t2_90 zk_t1_10 hX (is := 241) (text := "there is no such field") (by decide +kernel) (hl.1.trans hml.symm) hH hbg ⟨by decide, by decide, by decide, by decide⟩ ⟨by decide, by decide⟩ dX6_fieldNumbered_21 dX6_fieldNumbered_24 dX6_fieldNumbered_25 dX6_fieldNumbered_27 dX6_fieldNumbered_30
abbrev rmX6_corner : Room := { frames := 7, cells := 2, slots := 12, locals := 114 }
theorem hd_X6_corner : yX6_corner.cls = RX6 ∧ yX6_corner.cls ≠ "java/lang/invoke/MethodHandle" ∧ yX6_corner.cls ≠ "java/lang/invoke/VarHandle" ∧ (parseMethodDescriptor yX6_corner.desc).map (fun d => d.parameters.length) = some 3 := by decide +kernel
set_option maxHeartbeats 4000000 in
set_option maxRecDepth 100000 in
theorem c_X6_corner {l : Launch} {D : va_G} {cI cZ cF cL cD : ClassId} {ad : Nat → Nat} {N : Nat} (hI : ∀ i j, i < N → j < N → ad i = ad j → i = j) (hN : 19 ≤ N) {nF : Int} (hNF : N = 19 + 7 * nF.toNat) (hst : l.stackTraces = false) {σ0 : Nat → va_E} {sz : Nat} {sp_fieldCount : Int} {sp_trimBound : Int} {sp_planned : Int} {F_fd_colour : Int → Int} {F_fd_layer : Int → Int} {F_fd_column : Int → Int} {F_fd_cornerXs : Int → Int → Int} {F_fd_cornerYs : Int → Int → Int} {F_fd_crossings : Int → Int → Int} {F_fd_cornerCount : Int → Int} {F_fd_crossingCount : Int → Int} {F_fd_density : Int → Int} {F_fd_length : Int → Int} {F_fd_shift : Int → Int} {F_fd_pull : Int → Int} {F_fd_underlay : Int → Int} {F_fd_drawn : Int → Int} {F_pt_xs : Int → Int → Int} {F_pt_ys : Int → Int → Int} {F_pt_size : Int → Int} {p1 : Int} {p2 : Int} {p3 : Int} {Rt : Int} {R0 : Int} {R_sp_planned : Int} {R_F_fd_cornerXs : Int → Int → Int} {R_F_fd_cornerYs : Int → Int → Int} {R_F_fd_cornerCount : Int → Int} {R_F_fd_drawn : Int → Int} (h_sp : σ0 0 = oC_sp ad sp_fieldCount sp_trimBound sp_planned) (h_sp_fields : σ0 1 = .inl (cF, 8, .inr (.inr (.inr (.inr (zFA ad nF)))))) (h_FF : zFF ad cI nF σ0 F_fd_colour F_fd_layer F_fd_column F_fd_cornerXs F_fd_cornerYs F_fd_crossings F_fd_cornerCount F_fd_crossingCount F_fd_density F_fd_length F_fd_shift F_fd_pull F_fd_underlay F_fd_drawn F_pt_xs F_pt_ys F_pt_size) (hf : f_X6_corner sp_fieldCount sp_planned F_fd_column F_fd_cornerXs F_fd_cornerYs F_fd_cornerCount F_fd_drawn nF p1 p2 p3 = some (Rt, R0, R_sp_planned, R_F_fd_cornerXs, R_F_fd_cornerYs, R_F_fd_cornerCount, R_F_fd_drawn)) :
    vx_Met l yX6_corner (Cond.code yX6_corner cX6_corner 5 (some .int) :: wsL_law) rmX6_corner (zPreX D ad N (zT cI cZ cF cL cD) σ0 sz [.ref (ad 0), .int (zI p1), .int (zI p2), .int (zI p3)]) (zQi D ad N sz (fun r σ' => Rt = 0 ∧ r = zI R0 ∧ σ' 0 = oC_sp ad sp_fieldCount sp_trimBound R_sp_planned ∧ zFF ad cI nF σ' F_fd_colour F_fd_layer F_fd_column R_F_fd_cornerXs R_F_fd_cornerYs F_fd_crossings R_F_fd_cornerCount F_fd_crossingCount F_fd_density F_fd_length F_fd_shift F_fd_pull F_fd_underlay R_F_fd_drawn F_pt_xs F_pt_ys F_pt_size ∧ ∀ i : Nat, i < 19 → i ≠ 0 → σ' i = σ0 i)) (zXC D ad N sz Rt (fun σ' => σ' 0 = oC_sp ad sp_fieldCount sp_trimBound R_sp_planned ∧ zFF ad cI nF σ' F_fd_colour F_fd_layer F_fd_column R_F_fd_cornerXs R_F_fd_cornerYs F_fd_crossings R_F_fd_cornerCount F_fd_crossingCount F_fd_density F_fd_length F_fd_shift F_fd_pull F_fd_underlay R_F_fd_drawn F_pt_xs F_pt_ys F_pt_size ∧ ∀ i : Nat, i < 19 → i ≠ 0 → σ' i = σ0 i)) 2 12 (zFr ad N sz) := by
  refine zMetX hI (by decide) (Nat.le_of_ble_eq_true rfl) ?_
  intro p e s m args below meth c Q hx hb hr hlocks hml hown hts hnh hK hX hsz hQ hH hA ls hl
  subst hsz
  have hk_sp : 0 < N := by omega
  have hk_sp_fields : 1 < N := by omega
  have hl : lv_has ls 5 [(0, .ref (ad 0)), (1, .int (zI p1)), (2, .int (zI p2)), (3, .int (zI p3))] := hl
  have hbg : ∀ i : Nat, i < 19 → i ≠ 0 → σ0 i = σ0 i := fun _ _ _ => rfl
  unfold f_X6_corner at hf
  refine lv_aload_n hx hb dX6_corner_0 rfl (lv_at hl 0 rfl) ?_
  refine lv_iload_n hx hb dX6_corner_1 rfl (lv_at hl 1 rfl) ?_
  obtain ⟨t1, r2, k3, hf⟩ := zb2_some hf
  refine zxVq (C := RX6) (As := [.int (zI p1)]) (rest := []) hx hb hml hown hts hl.1 hK hH hA (hX.kept hH.2.2.2.1) (c_X6_fieldNumbered hI hN hNF hst  h_sp h_sp_fields k3) zk_t2_183 zk_t2_185 zk_s1_12 zk_t1_1 zk_t2_186 hd_X6_fieldNumbered rfl ⟨rfl, rfl, Nat.le_of_ble_eq_true rfl, Nat.le_of_ble_eq_true rfl⟩ ⟨by decide, by decide⟩ hk_sp h_sp rfl rfl rfl (Nat.le_of_ble_eq_true rfl) dX6_corner_2 (fun E ce q9 σ4 Hσ4 lσ4 hp hE hH hce hcv hcl => ?_) (fun q5 σ4 Hσ4 lσ4 hp hH => ?_)
  · replace hf := (if_pos (zEx_ne hE)).symm.trans hf
    rw [hp] at hH
    cases hf
    exact zxout hQ hnh hlocks hH ⟨h_sp, h_FF, hbg⟩ hE ⟨by decide, by decide⟩ hce hcv hcl
  obtain ⟨ht0, hr1, hs1⟩ := hp; subst hr1; rw [hs1] at hH
  replace hf := (if_neg (fun z => z ht0)).symm.trans hf
  refine lv_astore (lv' := [(4, .ref (ad (fB r2))), (0, .ref (ad 0)), (1, .int (zI p1)), (2, .int (zI p2)), (3, .int (zI p3))]) hx hb dX6_corner_5 hl (by decide) rfl (fun ls hl => ?_)
  refine lv_iload_n hx hb dX6_corner_7 rfl (lv_at hl 3 rfl) ?_
  refine lv_iconst (v := zI 0) hx hb dX6_corner_8 (by decide +kernel) ?_
  refine lv_bipush (v := zI 31) hx hb dX6_corner_9 (by decide +kernel) ?_
  obtain ⟨r6, k7, hf⟩ := zb1_some hf
  refine zcSi (As := [.int (zI p2), .int (zI 0), .int (zI 31)]) (rest := []) hx hb hml hown hts hl.1 hK hH hA (c_X6_isWithin hI hN   k7) zk_t2_87 zk_t2_88 zk_t1_1 zk_t2_89 hd_X6_isWithin rfl ⟨rfl, rfl, Nat.le_of_ble_eq_true rfl, Nat.le_of_ble_eq_true rfl⟩ ⟨by decide, by decide⟩ rfl (Nat.le_of_ble_eq_true rfl) dX6_corner_11 (fun q9 σ8 Hσ8 lσ8 hp hH => ?_)
  obtain ⟨hr1, hs1⟩ := hp; subst hr1; rw [hs1] at hH
  obtain ⟨k10, hf⟩ := zck_some hf
  refine lz_if_eq (tgt := 27) hx hb k10 dX6_corner_14 (by decide) (fun c11 => ?_) (fun c11 => ?_)
  · replace hf := (if_pos c11).symm.trans hf
    cases hf
    exact zthr_a hx hb hst hQ hnh hlocks hown hts zk_t2_158 zk_t1_11 hX (is := 83) (text := "a place is 0 to 31") (by decide +kernel) (hl.1.trans hml.symm) hH ⟨h_sp, h_FF, hbg⟩ ⟨by decide, by decide, by decide, by decide⟩ ⟨by decide, by decide⟩ dX6_corner_27 dX6_corner_30 dX6_corner_31 dX6_corner_33 dX6_corner_36
  · replace hf := (if_neg c11).symm.trans hf
    refine lv_iload_n hx hb dX6_corner_17 rfl (lv_at hl 4 rfl) ?_
    refine lv_iconst (v := zI 0) hx hb dX6_corner_18 (by decide +kernel) ?_
    refine lv_bipush (v := zI 31) hx hb dX6_corner_19 (by decide +kernel) ?_
    obtain ⟨r12, k13, hf⟩ := zb1_some hf
    refine zcSi (As := [.int (zI p3), .int (zI 0), .int (zI 31)]) (rest := []) hx hb hml hown hts hl.1 hK hH hA (c_X6_isWithin hI hN   k13) zk_t2_87 zk_t2_88 zk_t1_1 zk_t2_89 hd_X6_isWithin rfl ⟨rfl, rfl, Nat.le_of_ble_eq_true rfl, Nat.le_of_ble_eq_true rfl⟩ ⟨by decide, by decide⟩ rfl (Nat.le_of_ble_eq_true rfl) dX6_corner_21 (fun q15 σ14 Hσ14 lσ14 hp hH => ?_)
    obtain ⟨hr1, hs1⟩ := hp; subst hr1; rw [hs1] at hH
    obtain ⟨k16, hf⟩ := zck_some hf
    refine lz_if_ne (tgt := 37) hx hb k16 dX6_corner_24 (by decide) (fun c17 => ?_) (fun c17 => ?_)
    · replace hf := (if_neg c17).symm.trans hf
      refine lv_aload hx hb dX6_corner_37 (lv_at hl 0 rfl) ?_
      obtain ⟨k18, hf⟩ := zck_some hf
      obtain ⟨h_fd, h_fd_cornerXs, h_fd_cornerYs, h_fd_crossings, h_pt, h_pt_xs, h_pt_ys⟩ := h_FF r2 k18.1 k18.2
      obtain ⟨r19, k20, hf⟩ := zb1_some hf
      refine zcVi (C := RX0) (As := []) (rest := []) hx hb hml hown hts hl.1 hK hH hA (c_X0_isFull hI hN ⟨fB_ge _, fB_le hNF k18⟩ h_fd k20) zk_t3_149 zk_t3_150 zk_t3_151 zk_t1_13 zk_t3_152 hd_X0_isFull rfl ⟨rfl, rfl, Nat.le_of_ble_eq_true rfl, Nat.le_of_ble_eq_true rfl⟩ ⟨by decide, by decide⟩ (fB_lt hNF k18 0 (by decide)) h_fd rfl rfl rfl (Nat.le_of_ble_eq_true rfl) dX6_corner_39 (fun q22 σ21 Hσ21 lσ21 hp hH => ?_)
      obtain ⟨hr1, hs1⟩ := hp; subst hr1; rw [hs1] at hH
      obtain ⟨k23, hf⟩ := zck_some hf
      refine lz_if_eq (tgt := 55) hx hb k23 dX6_corner_42 (by decide) (fun c24 => ?_) (fun c24 => ?_)
      · replace hf := (if_pos c24).symm.trans hf
        refine lv_aload hx hb dX6_corner_55 (lv_at hl 0 rfl) ?_
        refine lv_iload_n hx hb dX6_corner_57 rfl (lv_at hl 3 rfl) ?_
        refine lv_iload_n hx hb dX6_corner_58 rfl (lv_at hl 4 rfl) ?_
        obtain ⟨k25, hf⟩ := zck_some hf
        obtain ⟨h_fd, h_fd_cornerXs, h_fd_cornerYs, h_fd_crossings, h_pt, h_pt_xs, h_pt_ys⟩ := h_FF r2 k25.1 k25.2
        obtain ⟨a26, a27, u28, u29, k30, hf⟩ := zb4_some hf
        refine zcVv (C := RX0) (As := [.int (zI p2), .int (zI p3)]) (rest := []) hx hb hml hown hts hl.1 hK hH hA (c_X0_putCorner hI hN ⟨fB_ge _, fB_le hNF k25⟩ h_fd h_fd_cornerXs h_fd_cornerYs k30) zk_t3_154 zk_t3_155 zk_t3_156 zk_t1_13 zk_t3_157 hd_X0_putCorner rfl ⟨rfl, rfl, Nat.le_of_ble_eq_true rfl, Nat.le_of_ble_eq_true rfl⟩ ⟨by decide, by decide⟩ (fB_lt hNF k25 0 (by decide)) h_fd rfl rfl rfl (Nat.le_of_ble_eq_true rfl) dX6_corner_59 (fun σ31 Hσ31 lσ31 hp hH => ?_)
        obtain ⟨h_fd, h_fd_cornerXs, h_fd_cornerYs, hn⟩ := hp
        obtain ⟨b32, eb32, hf⟩ := zlt_some hf
        obtain ⟨b33, eb33, hf⟩ := zlt_some hf
        obtain ⟨b34, eb34, hf⟩ := zlt_some hf
        obtain ⟨b35, eb35, hf⟩ := zlt_some hf
        have h_FF : zFF ad cI nF σ31 F_fd_colour F_fd_layer F_fd_column b32 b33 F_fd_crossings b34 F_fd_crossingCount F_fd_density F_fd_length F_fd_shift F_fd_pull F_fd_underlay b35 F_pt_xs F_pt_ys F_pt_size := zFF_upd (x := r2) k25.1 (fun i h46 hi => hn i (by omega) (by omega) (by omega)) h_FF (fun _ _ => rfl) (fun _ _ => rfl) (fun _ _ => rfl) (fun z hz => by rw [eb32]; exact zup_n hz) (fun z hz => by rw [eb33]; exact zup_n hz) (fun _ _ => rfl) (fun z hz => by rw [eb34]; exact zup_n hz) (fun _ _ => rfl) (fun _ _ => rfl) (fun _ _ => rfl) (fun _ _ => rfl) (fun _ _ => rfl) (fun _ _ => rfl) (fun z hz => by rw [eb35]; exact zup_n hz) (fun _ _ => rfl) (fun _ _ => rfl) (fun _ _ => rfl) (by (try simp only [eb32, eb33, eb34, eb35, zup_s]); exact h_fd) (by (try simp only [eb32, eb33, eb34, eb35, zup_s]); exact h_fd_cornerXs) (by (try simp only [eb32, eb33, eb34, eb35, zup_s]); exact h_fd_cornerYs) (by (try simp only [eb32, eb33, eb34, eb35, zup_s]); exact (hn (fB r2 + 3) (by omega) (by omega) (by omega)).trans h_fd_crossings) (by (try simp only [eb32, eb33, eb34, eb35, zup_s]); exact (hn (fB r2 + 4) (by omega) (by omega) (by omega)).trans h_pt) (by (try simp only [eb32, eb33, eb34, eb35, zup_s]); exact (hn (fB r2 + 5) (by omega) (by omega) (by omega)).trans h_pt_xs) (by (try simp only [eb32, eb33, eb34, eb35, zup_s]); exact (hn (fB r2 + 6) (by omega) (by omega) (by omega)).trans h_pt_ys)
        have h_sp := (hn 0 (by have := fB_ge r2; omega) (by have := fB_ge r2; omega) (by have := fB_ge r2; omega)).trans h_sp
        have h_sp_fields := (hn 1 (by have := fB_ge r2; omega) (by have := fB_ge r2; omega) (by have := fB_ge r2; omega)).trans h_sp_fields
        have hbg : ∀ i : Nat, i < 19 → i ≠ 0 → σ31 i = σ0 i := fun i h46 a0 => (hn i (by have := fB_ge r2; omega) (by have := fB_ge r2; omega) (by have := fB_ge r2; omega)).trans (hbg i h46 a0)
        refine lv_aload_n hx hb dX6_corner_62 rfl (lv_at hl 1 rfl) ?_
        refine lv_iconst (v := zI 0) hx hb dX6_corner_63 (by decide +kernel) ?_
        refine zput hx hb inlX6 tyX6 tyX6_ok nmX6 rfl 8 rfl zk_t1_157 rfl hts hown hK hH hk_sp h_sp (z_nar _ (Or.inl rfl)) (z_fit _ (Or.inl rfl)) rfl dX6_corner_64 (fun σ36 Hσ36 lσ36 h_sp hn hH => ?_)
        have h_sp : σ36 0 = oC_sp ad sp_fieldCount sp_trimBound 0 := h_sp
        have h_sp_fields := (hn 1 (by decide)).trans h_sp_fields
        have h_FF := zFF_keep (fun i hi => hn i (by omega)) h_FF
        have hbg : ∀ i : Nat, i < 19 → i ≠ 0 → σ36 i = σ0 i := fun i h46 a0 => (hn i a0).trans (hbg i h46 a0)
        refine lv_aload hx hb dX6_corner_67 (lv_at hl 0 rfl) ?_
        obtain ⟨k37, hf⟩ := zck_some hf
        obtain ⟨h_fd, h_fd_cornerXs, h_fd_cornerYs, h_fd_crossings, h_pt, h_pt_xs, h_pt_ys⟩ := h_FF r2 k37.1 k37.2
        refine zget hx hb inlX0 rfl 7 rfl zk_t3_104 hts hown hK hH (fB_lt hNF k37 0 (by decide)) h_fd rfl dX6_corner_69 ?_
        cases hf
        exact zxreti hx hb hr hlocks hQ hH ⟨rfl, rfl, h_sp, h_FF, hbg⟩ ⟨by decide, by decide⟩ dX6_corner_72
      · replace hf := (if_neg c24).symm.trans hf
        cases hf
        exact zthr_s hx hb hst hQ hnh hlocks hown hts zk_t3_46 zk_t1_12 hX (is := 89) (text := "the field has all its corners") (by decide +kernel) (hl.1.trans hml.symm) hH ⟨h_sp, h_FF, hbg⟩ ⟨by decide, by decide, by decide, by decide⟩ ⟨by decide, by decide⟩ dX6_corner_45 dX6_corner_48 dX6_corner_49 dX6_corner_51 dX6_corner_54
    · replace hf := (if_pos c17).symm.trans hf
      cases hf
      exact zthr_a hx hb hst hQ hnh hlocks hown hts zk_t2_158 zk_t1_11 hX (is := 83) (text := "a place is 0 to 31") (by decide +kernel) (hl.1.trans hml.symm) hH ⟨h_sp, h_FF, hbg⟩ ⟨by decide, by decide, by decide, by decide⟩ ⟨by decide, by decide⟩ dX6_corner_27 dX6_corner_30 dX6_corner_31 dX6_corner_33 dX6_corner_36
abbrev rmX6_sew : Room := { frames := 7, cells := 2, slots := 12, locals := 114 }
theorem hd_X6_sew : yX6_sew.cls = RX6 ∧ yX6_sew.cls ≠ "java/lang/invoke/MethodHandle" ∧ yX6_sew.cls ≠ "java/lang/invoke/VarHandle" ∧ (parseMethodDescriptor yX6_sew.desc).map (fun d => d.parameters.length) = some 6 := by decide +kernel
set_option maxHeartbeats 4000000 in
set_option maxRecDepth 100000 in
theorem c_X6_sew {l : Launch} {D : va_G} {cI cZ cF cL cD : ClassId} {ad : Nat → Nat} {N : Nat} (hI : ∀ i j, i < N → j < N → ad i = ad j → i = j) (hN : 19 ≤ N) {nF : Int} (hNF : N = 19 + 7 * nF.toNat) (hst : l.stackTraces = false) {σ0 : Nat → va_E} {sz : Nat} {sp_fieldCount : Int} {sp_trimBound : Int} {sp_planned : Int} {F_fd_colour : Int → Int} {F_fd_layer : Int → Int} {F_fd_column : Int → Int} {F_fd_cornerXs : Int → Int → Int} {F_fd_cornerYs : Int → Int → Int} {F_fd_crossings : Int → Int → Int} {F_fd_cornerCount : Int → Int} {F_fd_crossingCount : Int → Int} {F_fd_density : Int → Int} {F_fd_length : Int → Int} {F_fd_shift : Int → Int} {F_fd_pull : Int → Int} {F_fd_underlay : Int → Int} {F_fd_drawn : Int → Int} {F_pt_xs : Int → Int → Int} {F_pt_ys : Int → Int → Int} {F_pt_size : Int → Int} {p1 : Int} {p2 : Int} {p3 : Int} {p4 : Int} {p5 : Int} {p6 : Int} {Rt : Int} {R_sp_planned : Int} {R_F_fd_density : Int → Int} {R_F_fd_length : Int → Int} {R_F_fd_shift : Int → Int} {R_F_fd_pull : Int → Int} {R_F_fd_underlay : Int → Int} {R_F_fd_drawn : Int → Int} (h_sp : σ0 0 = oC_sp ad sp_fieldCount sp_trimBound sp_planned) (h_sp_fields : σ0 1 = .inl (cF, 8, .inr (.inr (.inr (.inr (zFA ad nF)))))) (h_FF : zFF ad cI nF σ0 F_fd_colour F_fd_layer F_fd_column F_fd_cornerXs F_fd_cornerYs F_fd_crossings F_fd_cornerCount F_fd_crossingCount F_fd_density F_fd_length F_fd_shift F_fd_pull F_fd_underlay F_fd_drawn F_pt_xs F_pt_ys F_pt_size) (hf : f_X6_sew sp_fieldCount sp_planned F_fd_density F_fd_length F_fd_shift F_fd_pull F_fd_underlay F_fd_drawn nF p1 p2 p3 p4 p5 p6 = some (Rt, R_sp_planned, R_F_fd_density, R_F_fd_length, R_F_fd_shift, R_F_fd_pull, R_F_fd_underlay, R_F_fd_drawn)) :
    vx_Met l yX6_sew (Cond.code yX6_sew cX6_sew 8 none :: wsL_law) rmX6_sew (zPreX D ad N (zT cI cZ cF cL cD) σ0 sz [.ref (ad 0), .int (zI p1), .int (zI p2), .int (zI p3), .int (zI p4), .int (zI p5), .int (zI p6)]) (zQv D ad N sz (fun σ' => Rt = 0 ∧ σ' 0 = oC_sp ad sp_fieldCount sp_trimBound R_sp_planned ∧ zFF ad cI nF σ' F_fd_colour F_fd_layer F_fd_column F_fd_cornerXs F_fd_cornerYs F_fd_crossings F_fd_cornerCount F_fd_crossingCount R_F_fd_density R_F_fd_length R_F_fd_shift R_F_fd_pull R_F_fd_underlay R_F_fd_drawn F_pt_xs F_pt_ys F_pt_size ∧ ∀ i : Nat, i < 19 → i ≠ 0 → σ' i = σ0 i)) (zXC D ad N sz Rt (fun σ' => σ' 0 = oC_sp ad sp_fieldCount sp_trimBound R_sp_planned ∧ zFF ad cI nF σ' F_fd_colour F_fd_layer F_fd_column F_fd_cornerXs F_fd_cornerYs F_fd_crossings F_fd_cornerCount F_fd_crossingCount R_F_fd_density R_F_fd_length R_F_fd_shift R_F_fd_pull R_F_fd_underlay R_F_fd_drawn F_pt_xs F_pt_ys F_pt_size ∧ ∀ i : Nat, i < 19 → i ≠ 0 → σ' i = σ0 i)) 2 12 (zFr ad N sz) := by
  refine zMetX hI (by decide) (Nat.le_of_ble_eq_true rfl) ?_
  intro p e s m args below meth c Q hx hb hr hlocks hml hown hts hnh hK hX hsz hQ hH hA ls hl
  subst hsz
  have hk_sp : 0 < N := by omega
  have hk_sp_fields : 1 < N := by omega
  have hl : lv_has ls 8 [(0, .ref (ad 0)), (1, .int (zI p1)), (2, .int (zI p2)), (3, .int (zI p3)), (4, .int (zI p4)), (5, .int (zI p5)), (6, .int (zI p6))] := hl
  have hbg : ∀ i : Nat, i < 19 → i ≠ 0 → σ0 i = σ0 i := fun _ _ _ => rfl
  unfold f_X6_sew at hf
  refine lv_aload_n hx hb dX6_sew_0 rfl (lv_at hl 0 rfl) ?_
  refine lv_iload_n hx hb dX6_sew_1 rfl (lv_at hl 1 rfl) ?_
  obtain ⟨t1, r2, k3, hf⟩ := zb2_some hf
  refine zxVq (C := RX6) (As := [.int (zI p1)]) (rest := []) hx hb hml hown hts hl.1 hK hH hA (hX.kept hH.2.2.2.1) (c_X6_fieldNumbered hI hN hNF hst  h_sp h_sp_fields k3) zk_t2_183 zk_t2_185 zk_s1_12 zk_t1_1 zk_t2_186 hd_X6_fieldNumbered rfl ⟨rfl, rfl, Nat.le_of_ble_eq_true rfl, Nat.le_of_ble_eq_true rfl⟩ ⟨by decide, by decide⟩ hk_sp h_sp rfl rfl rfl (Nat.le_of_ble_eq_true rfl) dX6_sew_2 (fun E ce q9 σ4 Hσ4 lσ4 hp hE hH hce hcv hcl => ?_) (fun q5 σ4 Hσ4 lσ4 hp hH => ?_)
  · replace hf := (if_pos (zEx_ne hE)).symm.trans hf
    rw [hp] at hH
    cases hf
    exact zxout hQ hnh hlocks hH ⟨h_sp, h_FF, hbg⟩ hE ⟨by decide, by decide⟩ hce hcv hcl
  obtain ⟨ht0, hr1, hs1⟩ := hp; subst hr1; rw [hs1] at hH
  replace hf := (if_neg (fun z => z ht0)).symm.trans hf
  refine lv_astore (lv' := [(7, .ref (ad (fB r2))), (0, .ref (ad 0)), (1, .int (zI p1)), (2, .int (zI p2)), (3, .int (zI p3)), (4, .int (zI p4)), (5, .int (zI p5)), (6, .int (zI p6))]) hx hb dX6_sew_5 hl (by decide) rfl (fun ls hl => ?_)
  refine lv_iload_n hx hb dX6_sew_7 rfl (lv_at hl 3 rfl) ?_
  refine lv_iconst (v := zI 1) hx hb dX6_sew_8 (by decide +kernel) ?_
  refine lv_bipush (v := zI 8) hx hb dX6_sew_9 (by decide +kernel) ?_
  obtain ⟨r6, k7, hf⟩ := zb1_some hf
  refine zcSi (As := [.int (zI p2), .int (zI 1), .int (zI 8)]) (rest := []) hx hb hml hown hts hl.1 hK hH hA (c_X6_isWithin hI hN   k7) zk_t2_87 zk_t2_88 zk_t1_1 zk_t2_89 hd_X6_isWithin rfl ⟨rfl, rfl, Nat.le_of_ble_eq_true rfl, Nat.le_of_ble_eq_true rfl⟩ ⟨by decide, by decide⟩ rfl (Nat.le_of_ble_eq_true rfl) dX6_sew_11 (fun q9 σ8 Hσ8 lσ8 hp hH => ?_)
  obtain ⟨hr1, hs1⟩ := hp; subst hr1; rw [hs1] at hH
  obtain ⟨k10, hf⟩ := zck_some hf
  refine lz_if_ne (tgt := 27) hx hb k10 dX6_sew_14 (by decide) (fun c11 => ?_) (fun c11 => ?_)
  · replace hf := (if_neg c11).symm.trans hf
    refine lv_iload_n hx hb dX6_sew_27 rfl (lv_at hl 4 rfl) ?_
    refine lv_iconst (v := zI 1) hx hb dX6_sew_28 (by decide +kernel) ?_
    refine lv_bipush (v := zI 12) hx hb dX6_sew_29 (by decide +kernel) ?_
    obtain ⟨r12, k13, hf⟩ := zb1_some hf
    refine zcSi (As := [.int (zI p3), .int (zI 1), .int (zI 12)]) (rest := []) hx hb hml hown hts hl.1 hK hH hA (c_X6_isWithin hI hN   k13) zk_t2_87 zk_t2_88 zk_t1_1 zk_t2_89 hd_X6_isWithin rfl ⟨rfl, rfl, Nat.le_of_ble_eq_true rfl, Nat.le_of_ble_eq_true rfl⟩ ⟨by decide, by decide⟩ rfl (Nat.le_of_ble_eq_true rfl) dX6_sew_31 (fun q15 σ14 Hσ14 lσ14 hp hH => ?_)
    obtain ⟨hr1, hs1⟩ := hp; subst hr1; rw [hs1] at hH
    obtain ⟨k16, hf⟩ := zck_some hf
    refine lz_if_ne (tgt := 47) hx hb k16 dX6_sew_34 (by decide) (fun c17 => ?_) (fun c17 => ?_)
    · replace hf := (if_neg c17).symm.trans hf
      refine lv_iload hx hb dX6_sew_47 (lv_at hl 5 rfl) ?_
      refine lv_iconst (v := zI 0) hx hb dX6_sew_49 (by decide +kernel) ?_
      refine lv_bipush (v := zI 11) hx hb dX6_sew_50 (by decide +kernel) ?_
      obtain ⟨r18, k19, hf⟩ := zb1_some hf
      refine zcSi (As := [.int (zI p4), .int (zI 0), .int (zI 11)]) (rest := []) hx hb hml hown hts hl.1 hK hH hA (c_X6_isWithin hI hN   k19) zk_t2_87 zk_t2_88 zk_t1_1 zk_t2_89 hd_X6_isWithin rfl ⟨rfl, rfl, Nat.le_of_ble_eq_true rfl, Nat.le_of_ble_eq_true rfl⟩ ⟨by decide, by decide⟩ rfl (Nat.le_of_ble_eq_true rfl) dX6_sew_52 (fun q21 σ20 Hσ20 lσ20 hp hH => ?_)
      obtain ⟨hr1, hs1⟩ := hp; subst hr1; rw [hs1] at hH
      obtain ⟨k22, hf⟩ := zck_some hf
      refine lz_if_ne (tgt := 68) hx hb k22 dX6_sew_55 (by decide) (fun c23 => ?_) (fun c23 => ?_)
      · replace hf := (if_neg c23).symm.trans hf
        refine lv_iload hx hb dX6_sew_68 (lv_at hl 6 rfl) ?_
        refine lv_iconst (v := zI 0) hx hb dX6_sew_70 (by decide +kernel) ?_
        refine lv_iconst (v := zI 3) hx hb dX6_sew_71 (by decide +kernel) ?_
        obtain ⟨r24, k25, hf⟩ := zb1_some hf
        refine zcSi (As := [.int (zI p5), .int (zI 0), .int (zI 3)]) (rest := []) hx hb hml hown hts hl.1 hK hH hA (c_X6_isWithin hI hN   k25) zk_t2_87 zk_t2_88 zk_t1_1 zk_t2_89 hd_X6_isWithin rfl ⟨rfl, rfl, Nat.le_of_ble_eq_true rfl, Nat.le_of_ble_eq_true rfl⟩ ⟨by decide, by decide⟩ rfl (Nat.le_of_ble_eq_true rfl) dX6_sew_72 (fun q27 σ26 Hσ26 lσ26 hp hH => ?_)
        obtain ⟨hr1, hs1⟩ := hp; subst hr1; rw [hs1] at hH
        obtain ⟨k28, hf⟩ := zck_some hf
        refine lz_if_ne (tgt := 88) hx hb k28 dX6_sew_75 (by decide) (fun c29 => ?_) (fun c29 => ?_)
        · replace hf := (if_neg c29).symm.trans hf
          refine lv_aload hx hb dX6_sew_88 (lv_at hl 0 rfl) ?_
          refine lv_iload_n hx hb dX6_sew_90 rfl (lv_at hl 3 rfl) ?_
          refine lv_iload_n hx hb dX6_sew_91 rfl (lv_at hl 4 rfl) ?_
          refine lv_iload hx hb dX6_sew_92 (lv_at hl 5 rfl) ?_
          refine lv_iload hx hb dX6_sew_94 (lv_at hl 6 rfl) ?_
          refine lv_iload hx hb dX6_sew_96 (lv_at hl 7 rfl) ?_
          obtain ⟨k30, hf⟩ := zck_some hf
          obtain ⟨h_fd, h_fd_cornerXs, h_fd_cornerYs, h_fd_crossings, h_pt, h_pt_xs, h_pt_ys⟩ := h_FF r2 k30.1 k30.2
          obtain ⟨u31, u32, u33, u34, u35, u36, k37, hf⟩ := zb6_some hf
          refine zcVv (C := RX0) (As := [.int (zI p2), .int (zI p3), .int (zI p4), .int (zI p5), .int (zI p6)]) (rest := []) hx hb hml hown hts hl.1 hK hH hA (c_X0_settle hI hN ⟨fB_ge _, fB_le hNF k30⟩ h_fd k37) zk_t4_75 zk_t4_76 zk_t4_77 zk_t1_13 zk_t4_78 hd_X0_settle rfl ⟨rfl, rfl, Nat.le_of_ble_eq_true rfl, Nat.le_of_ble_eq_true rfl⟩ ⟨by decide, by decide⟩ (fB_lt hNF k30 0 (by decide)) h_fd rfl rfl rfl (Nat.le_of_ble_eq_true rfl) dX6_sew_98 (fun σ38 Hσ38 lσ38 hp hH => ?_)
          obtain ⟨h_fd, hn⟩ := hp
          obtain ⟨b39, eb39, hf⟩ := zlt_some hf
          obtain ⟨b40, eb40, hf⟩ := zlt_some hf
          obtain ⟨b41, eb41, hf⟩ := zlt_some hf
          obtain ⟨b42, eb42, hf⟩ := zlt_some hf
          obtain ⟨b43, eb43, hf⟩ := zlt_some hf
          obtain ⟨b44, eb44, hf⟩ := zlt_some hf
          have h_FF : zFF ad cI nF σ38 F_fd_colour F_fd_layer F_fd_column F_fd_cornerXs F_fd_cornerYs F_fd_crossings F_fd_cornerCount F_fd_crossingCount b39 b40 b41 b42 b43 b44 F_pt_xs F_pt_ys F_pt_size := zFF_upd (x := r2) k30.1 (fun i h46 hi => hn i (by omega)) h_FF (fun _ _ => rfl) (fun _ _ => rfl) (fun _ _ => rfl) (fun _ _ => rfl) (fun _ _ => rfl) (fun _ _ => rfl) (fun _ _ => rfl) (fun _ _ => rfl) (fun z hz => by rw [eb39]; exact zup_n hz) (fun z hz => by rw [eb40]; exact zup_n hz) (fun z hz => by rw [eb41]; exact zup_n hz) (fun z hz => by rw [eb42]; exact zup_n hz) (fun z hz => by rw [eb43]; exact zup_n hz) (fun z hz => by rw [eb44]; exact zup_n hz) (fun _ _ => rfl) (fun _ _ => rfl) (fun _ _ => rfl) (by (try simp only [eb39, eb40, eb41, eb42, eb43, eb44, zup_s]); exact h_fd) (by (try simp only [eb39, eb40, eb41, eb42, eb43, eb44, zup_s]); exact (hn (fB r2 + 1) (by omega)).trans h_fd_cornerXs) (by (try simp only [eb39, eb40, eb41, eb42, eb43, eb44, zup_s]); exact (hn (fB r2 + 2) (by omega)).trans h_fd_cornerYs) (by (try simp only [eb39, eb40, eb41, eb42, eb43, eb44, zup_s]); exact (hn (fB r2 + 3) (by omega)).trans h_fd_crossings) (by (try simp only [eb39, eb40, eb41, eb42, eb43, eb44, zup_s]); exact (hn (fB r2 + 4) (by omega)).trans h_pt) (by (try simp only [eb39, eb40, eb41, eb42, eb43, eb44, zup_s]); exact (hn (fB r2 + 5) (by omega)).trans h_pt_xs) (by (try simp only [eb39, eb40, eb41, eb42, eb43, eb44, zup_s]); exact (hn (fB r2 + 6) (by omega)).trans h_pt_ys)
          have h_sp := (hn 0 (by have := fB_ge r2; omega)).trans h_sp
          have h_sp_fields := (hn 1 (by have := fB_ge r2; omega)).trans h_sp_fields
          have hbg : ∀ i : Nat, i < 19 → i ≠ 0 → σ38 i = σ0 i := fun i h46 a0 => (hn i (by have := fB_ge r2; omega)).trans (hbg i h46 a0)
          refine lv_aload_n hx hb dX6_sew_101 rfl (lv_at hl 1 rfl) ?_
          refine lv_iconst (v := zI 0) hx hb dX6_sew_102 (by decide +kernel) ?_
          refine zput hx hb inlX6 tyX6 tyX6_ok nmX6 rfl 8 rfl zk_t1_157 rfl hts hown hK hH hk_sp h_sp (z_nar _ (Or.inl rfl)) (z_fit _ (Or.inl rfl)) rfl dX6_sew_103 (fun σ45 Hσ45 lσ45 h_sp hn hH => ?_)
          have h_sp : σ45 0 = oC_sp ad sp_fieldCount sp_trimBound 0 := h_sp
          have h_sp_fields := (hn 1 (by decide)).trans h_sp_fields
          have h_FF := zFF_keep (fun i hi => hn i (by omega)) h_FF
          have hbg : ∀ i : Nat, i < 19 → i ≠ 0 → σ45 i = σ0 i := fun i h46 a0 => (hn i a0).trans (hbg i h46 a0)
          cases hf
          exact zxretv hx hb hr hlocks hQ hH ⟨rfl, h_sp, h_FF, hbg⟩ ⟨by decide, by decide⟩ dX6_sew_106
        · replace hf := (if_pos c29).symm.trans hf
          cases hf
          exact zthr_a hx hb hst hQ hnh hlocks hown hts zk_t2_158 zk_t1_11 hX (is := 104) (text := "a pull is 0 to 3") (by decide +kernel) (hl.1.trans hml.symm) hH ⟨h_sp, h_FF, hbg⟩ ⟨by decide, by decide, by decide, by decide⟩ ⟨by decide, by decide⟩ dX6_sew_78 dX6_sew_81 dX6_sew_82 dX6_sew_84 dX6_sew_87
      · replace hf := (if_pos c23).symm.trans hf
        cases hf
        exact zthr_a hx hb hst hQ hnh hlocks hown hts zk_t2_158 zk_t1_11 hX (is := 102) (text := "a shift is 0 to 11") (by decide +kernel) (hl.1.trans hml.symm) hH ⟨h_sp, h_FF, hbg⟩ ⟨by decide, by decide, by decide, by decide⟩ ⟨by decide, by decide⟩ dX6_sew_58 dX6_sew_61 dX6_sew_62 dX6_sew_64 dX6_sew_67
    · replace hf := (if_pos c17).symm.trans hf
      cases hf
      exact zthr_a hx hb hst hQ hnh hlocks hown hts zk_t2_158 zk_t1_11 hX (is := 100) (text := "a length is 1 to 12") (by decide +kernel) (hl.1.trans hml.symm) hH ⟨h_sp, h_FF, hbg⟩ ⟨by decide, by decide, by decide, by decide⟩ ⟨by decide, by decide⟩ dX6_sew_37 dX6_sew_40 dX6_sew_41 dX6_sew_43 dX6_sew_46
  · replace hf := (if_pos c11).symm.trans hf
    cases hf
    exact zthr_a hx hb hst hQ hnh hlocks hown hts zk_t2_158 zk_t1_11 hX (is := 98) (text := "a density is 1 to 8") (by decide +kernel) (hl.1.trans hml.symm) hH ⟨h_sp, h_FF, hbg⟩ ⟨by decide, by decide, by decide, by decide⟩ ⟨by decide, by decide⟩ dX6_sew_17 dX6_sew_20 dX6_sew_21 dX6_sew_23 dX6_sew_26
abbrev rmX6_scale : Room := { frames := 7, cells := 2, slots := 12, locals := 114 }
theorem hd_X6_scale : yX6_scale.cls = RX6 ∧ yX6_scale.cls ≠ "java/lang/invoke/MethodHandle" ∧ yX6_scale.cls ≠ "java/lang/invoke/VarHandle" ∧ (parseMethodDescriptor yX6_scale.desc).map (fun d => d.parameters.length) = some 2 := by decide +kernel
set_option maxHeartbeats 4000000 in
set_option maxRecDepth 100000 in
theorem c_X6_scale {l : Launch} {D : va_G} {cI cZ cF cL cD : ClassId} {ad : Nat → Nat} {N : Nat} (hI : ∀ i j, i < N → j < N → ad i = ad j → i = j) (hN : 19 ≤ N) {nF : Int} (hNF : N = 19 + 7 * nF.toNat) (hst : l.stackTraces = false) {σ0 : Nat → va_E} {sz : Nat} {sp_fieldCount : Int} {sp_trimBound : Int} {sp_planned : Int} {F_fd_colour : Int → Int} {F_fd_layer : Int → Int} {F_fd_column : Int → Int} {F_fd_cornerXs : Int → Int → Int} {F_fd_cornerYs : Int → Int → Int} {F_fd_crossings : Int → Int → Int} {F_fd_cornerCount : Int → Int} {F_fd_crossingCount : Int → Int} {F_fd_density : Int → Int} {F_fd_length : Int → Int} {F_fd_shift : Int → Int} {F_fd_pull : Int → Int} {F_fd_underlay : Int → Int} {F_fd_drawn : Int → Int} {F_pt_xs : Int → Int → Int} {F_pt_ys : Int → Int → Int} {F_pt_size : Int → Int} {p1 : Int} {p2 : Int} {Rt : Int} {R_sp_planned : Int} {R_F_fd_cornerXs : Int → Int → Int} {R_F_fd_cornerYs : Int → Int → Int} {R_F_fd_drawn : Int → Int} (h_sp : σ0 0 = oC_sp ad sp_fieldCount sp_trimBound sp_planned) (h_sp_fields : σ0 1 = .inl (cF, 8, .inr (.inr (.inr (.inr (zFA ad nF)))))) (h_FF : zFF ad cI nF σ0 F_fd_colour F_fd_layer F_fd_column F_fd_cornerXs F_fd_cornerYs F_fd_crossings F_fd_cornerCount F_fd_crossingCount F_fd_density F_fd_length F_fd_shift F_fd_pull F_fd_underlay F_fd_drawn F_pt_xs F_pt_ys F_pt_size) (hf : f_X6_scale sp_fieldCount sp_planned F_fd_cornerXs F_fd_cornerYs F_fd_cornerCount F_fd_drawn nF p1 p2 = some (Rt, R_sp_planned, R_F_fd_cornerXs, R_F_fd_cornerYs, R_F_fd_drawn)) :
    vx_Met l yX6_scale (Cond.code yX6_scale cX6_scale 4 none :: wsL_law) rmX6_scale (zPreX D ad N (zT cI cZ cF cL cD) σ0 sz [.ref (ad 0), .int (zI p1), .int (zI p2)]) (zQv D ad N sz (fun σ' => Rt = 0 ∧ σ' 0 = oC_sp ad sp_fieldCount sp_trimBound R_sp_planned ∧ zFF ad cI nF σ' F_fd_colour F_fd_layer F_fd_column R_F_fd_cornerXs R_F_fd_cornerYs F_fd_crossings F_fd_cornerCount F_fd_crossingCount F_fd_density F_fd_length F_fd_shift F_fd_pull F_fd_underlay R_F_fd_drawn F_pt_xs F_pt_ys F_pt_size ∧ ∀ i : Nat, i < 19 → i ≠ 0 → σ' i = σ0 i)) (zXC D ad N sz Rt (fun σ' => σ' 0 = oC_sp ad sp_fieldCount sp_trimBound R_sp_planned ∧ zFF ad cI nF σ' F_fd_colour F_fd_layer F_fd_column R_F_fd_cornerXs R_F_fd_cornerYs F_fd_crossings F_fd_cornerCount F_fd_crossingCount F_fd_density F_fd_length F_fd_shift F_fd_pull F_fd_underlay R_F_fd_drawn F_pt_xs F_pt_ys F_pt_size ∧ ∀ i : Nat, i < 19 → i ≠ 0 → σ' i = σ0 i)) 2 12 (zFr ad N sz) := by
  refine zMetX hI (by decide) (Nat.le_of_ble_eq_true rfl) ?_
  intro p e s m args below meth c Q hx hb hr hlocks hml hown hts hnh hK hX hsz hQ hH hA ls hl
  subst hsz
  have hk_sp : 0 < N := by omega
  have hk_sp_fields : 1 < N := by omega
  have hl : lv_has ls 4 [(0, .ref (ad 0)), (1, .int (zI p1)), (2, .int (zI p2))] := hl
  have hbg : ∀ i : Nat, i < 19 → i ≠ 0 → σ0 i = σ0 i := fun _ _ _ => rfl
  unfold f_X6_scale at hf
  refine lv_aload_n hx hb dX6_scale_0 rfl (lv_at hl 0 rfl) ?_
  refine lv_iload_n hx hb dX6_scale_1 rfl (lv_at hl 1 rfl) ?_
  obtain ⟨t1, r2, k3, hf⟩ := zb2_some hf
  refine zxVq (C := RX6) (As := [.int (zI p1)]) (rest := []) hx hb hml hown hts hl.1 hK hH hA (hX.kept hH.2.2.2.1) (c_X6_fieldNumbered hI hN hNF hst  h_sp h_sp_fields k3) zk_t2_183 zk_t2_185 zk_s1_12 zk_t1_1 zk_t2_186 hd_X6_fieldNumbered rfl ⟨rfl, rfl, Nat.le_of_ble_eq_true rfl, Nat.le_of_ble_eq_true rfl⟩ ⟨by decide, by decide⟩ hk_sp h_sp rfl rfl rfl (Nat.le_of_ble_eq_true rfl) dX6_scale_2 (fun E ce q9 σ4 Hσ4 lσ4 hp hE hH hce hcv hcl => ?_) (fun q5 σ4 Hσ4 lσ4 hp hH => ?_)
  · replace hf := (if_pos (zEx_ne hE)).symm.trans hf
    rw [hp] at hH
    cases hf
    exact zxout hQ hnh hlocks hH ⟨h_sp, h_FF, hbg⟩ hE ⟨by decide, by decide⟩ hce hcv hcl
  obtain ⟨ht0, hr1, hs1⟩ := hp; subst hr1; rw [hs1] at hH
  replace hf := (if_neg (fun z => z ht0)).symm.trans hf
  refine lv_astore_n (lv' := [(3, .ref (ad (fB r2))), (0, .ref (ad 0)), (1, .int (zI p1)), (2, .int (zI p2))]) hx hb dX6_scale_5 rfl hl (by decide) rfl (fun ls hl => ?_)
  refine lv_iload_n hx hb dX6_scale_6 rfl (lv_at hl 3 rfl) ?_
  refine lv_iconst (v := zI 1) hx hb dX6_scale_7 (by decide +kernel) ?_
  refine lv_sipush (v := zI 400) hx hb dX6_scale_8 (by decide +kernel) ?_
  obtain ⟨r6, k7, hf⟩ := zb1_some hf
  refine zcSi (As := [.int (zI p2), .int (zI 1), .int (zI 400)]) (rest := []) hx hb hml hown hts hl.1 hK hH hA (c_X6_isWithin hI hN   k7) zk_t2_87 zk_t2_88 zk_t1_1 zk_t2_89 hd_X6_isWithin rfl ⟨rfl, rfl, Nat.le_of_ble_eq_true rfl, Nat.le_of_ble_eq_true rfl⟩ ⟨by decide, by decide⟩ rfl (Nat.le_of_ble_eq_true rfl) dX6_scale_11 (fun q9 σ8 Hσ8 lσ8 hp hH => ?_)
  obtain ⟨hr1, hs1⟩ := hp; subst hr1; rw [hs1] at hH
  obtain ⟨k10, hf⟩ := zck_some hf
  refine lz_if_ne (tgt := 27) hx hb k10 dX6_scale_14 (by decide) (fun c11 => ?_) (fun c11 => ?_)
  · replace hf := (if_neg c11).symm.trans hf
    refine lv_aload_n hx hb dX6_scale_27 rfl (lv_at hl 0 rfl) ?_
    refine lv_iload_n hx hb dX6_scale_28 rfl (lv_at hl 3 rfl) ?_
    obtain ⟨k12, hf⟩ := zck_some hf
    obtain ⟨h_fd, h_fd_cornerXs, h_fd_cornerYs, h_fd_crossings, h_pt, h_pt_xs, h_pt_ys⟩ := h_FF r2 k12.1 k12.2
    obtain ⟨r13, k14, hf⟩ := zb1_some hf
    refine zcVi (C := RX0) (As := [.int (zI p2)]) (rest := []) hx hb hml hown hts hl.1 hK hH hA (c_X0_canResize hI hN ⟨fB_ge _, fB_le hNF k12⟩ h_fd h_fd_cornerXs h_fd_cornerYs k14) zk_t3_163 zk_t3_164 zk_t3_165 zk_t1_13 zk_t3_166 hd_X0_canResize rfl ⟨rfl, rfl, Nat.le_of_ble_eq_true rfl, Nat.le_of_ble_eq_true rfl⟩ ⟨by decide, by decide⟩ (fB_lt hNF k12 0 (by decide)) h_fd rfl rfl rfl (Nat.le_of_ble_eq_true rfl) dX6_scale_29 (fun q16 σ15 Hσ15 lσ15 hp hH => ?_)
    obtain ⟨hr1, hs1⟩ := hp; subst hr1; rw [hs1] at hH
    obtain ⟨k17, hf⟩ := zck_some hf
    refine lz_if_ne (tgt := 45) hx hb k17 dX6_scale_32 (by decide) (fun c18 => ?_) (fun c18 => ?_)
    · replace hf := (if_neg c18).symm.trans hf
      refine lv_aload_n hx hb dX6_scale_45 rfl (lv_at hl 0 rfl) ?_
      refine lv_iload_n hx hb dX6_scale_46 rfl (lv_at hl 3 rfl) ?_
      obtain ⟨k19, hf⟩ := zck_some hf
      obtain ⟨h_fd, h_fd_cornerXs, h_fd_cornerYs, h_fd_crossings, h_pt, h_pt_xs, h_pt_ys⟩ := h_FF r2 k19.1 k19.2
      obtain ⟨a20, a21, u22, k23, hf⟩ := zb3_some hf
      refine zcVv (C := RX0) (As := [.int (zI p2)]) (rest := []) hx hb hml hown hts hl.1 hK hH hA (c_X0_resize hI hN ⟨fB_ge _, fB_le hNF k19⟩ h_fd h_fd_cornerXs h_fd_cornerYs k23) zk_t3_168 zk_t3_169 zk_t3_170 zk_t1_13 zk_t3_171 hd_X0_resize rfl ⟨rfl, rfl, Nat.le_of_ble_eq_true rfl, Nat.le_of_ble_eq_true rfl⟩ ⟨by decide, by decide⟩ (fB_lt hNF k19 0 (by decide)) h_fd rfl rfl rfl (Nat.le_of_ble_eq_true rfl) dX6_scale_47 (fun σ24 Hσ24 lσ24 hp hH => ?_)
      obtain ⟨h_fd, h_fd_cornerXs, h_fd_cornerYs, hn⟩ := hp
      obtain ⟨b25, eb25, hf⟩ := zlt_some hf
      obtain ⟨b26, eb26, hf⟩ := zlt_some hf
      obtain ⟨b27, eb27, hf⟩ := zlt_some hf
      have h_FF : zFF ad cI nF σ24 F_fd_colour F_fd_layer F_fd_column b25 b26 F_fd_crossings F_fd_cornerCount F_fd_crossingCount F_fd_density F_fd_length F_fd_shift F_fd_pull F_fd_underlay b27 F_pt_xs F_pt_ys F_pt_size := zFF_upd (x := r2) k19.1 (fun i h46 hi => hn i (by omega) (by omega) (by omega)) h_FF (fun _ _ => rfl) (fun _ _ => rfl) (fun _ _ => rfl) (fun z hz => by rw [eb25]; exact zup_n hz) (fun z hz => by rw [eb26]; exact zup_n hz) (fun _ _ => rfl) (fun _ _ => rfl) (fun _ _ => rfl) (fun _ _ => rfl) (fun _ _ => rfl) (fun _ _ => rfl) (fun _ _ => rfl) (fun _ _ => rfl) (fun z hz => by rw [eb27]; exact zup_n hz) (fun _ _ => rfl) (fun _ _ => rfl) (fun _ _ => rfl) (by (try simp only [eb25, eb26, eb27, zup_s]); exact h_fd) (by (try simp only [eb25, eb26, eb27, zup_s]); exact h_fd_cornerXs) (by (try simp only [eb25, eb26, eb27, zup_s]); exact h_fd_cornerYs) (by (try simp only [eb25, eb26, eb27, zup_s]); exact (hn (fB r2 + 3) (by omega) (by omega) (by omega)).trans h_fd_crossings) (by (try simp only [eb25, eb26, eb27, zup_s]); exact (hn (fB r2 + 4) (by omega) (by omega) (by omega)).trans h_pt) (by (try simp only [eb25, eb26, eb27, zup_s]); exact (hn (fB r2 + 5) (by omega) (by omega) (by omega)).trans h_pt_xs) (by (try simp only [eb25, eb26, eb27, zup_s]); exact (hn (fB r2 + 6) (by omega) (by omega) (by omega)).trans h_pt_ys)
      have h_sp := (hn 0 (by have := fB_ge r2; omega) (by have := fB_ge r2; omega) (by have := fB_ge r2; omega)).trans h_sp
      have h_sp_fields := (hn 1 (by have := fB_ge r2; omega) (by have := fB_ge r2; omega) (by have := fB_ge r2; omega)).trans h_sp_fields
      have hbg : ∀ i : Nat, i < 19 → i ≠ 0 → σ24 i = σ0 i := fun i h46 a0 => (hn i (by have := fB_ge r2; omega) (by have := fB_ge r2; omega) (by have := fB_ge r2; omega)).trans (hbg i h46 a0)
      refine lv_aload_n hx hb dX6_scale_50 rfl (lv_at hl 1 rfl) ?_
      refine lv_iconst (v := zI 0) hx hb dX6_scale_51 (by decide +kernel) ?_
      refine zput hx hb inlX6 tyX6 tyX6_ok nmX6 rfl 8 rfl zk_t1_157 rfl hts hown hK hH hk_sp h_sp (z_nar _ (Or.inl rfl)) (z_fit _ (Or.inl rfl)) rfl dX6_scale_52 (fun σ28 Hσ28 lσ28 h_sp hn hH => ?_)
      have h_sp : σ28 0 = oC_sp ad sp_fieldCount sp_trimBound 0 := h_sp
      have h_sp_fields := (hn 1 (by decide)).trans h_sp_fields
      have h_FF := zFF_keep (fun i hi => hn i (by omega)) h_FF
      have hbg : ∀ i : Nat, i < 19 → i ≠ 0 → σ28 i = σ0 i := fun i h46 a0 => (hn i a0).trans (hbg i h46 a0)
      cases hf
      exact zxretv hx hb hr hlocks hQ hH ⟨rfl, h_sp, h_FF, hbg⟩ ⟨by decide, by decide⟩ dX6_scale_55
    · replace hf := (if_pos c18).symm.trans hf
      cases hf
      exact zthr_s hx hb hst hQ hnh hlocks hown hts zk_t3_46 zk_t1_12 hX (is := 116) (text := "a corner would not be 0 to 31") (by decide +kernel) (hl.1.trans hml.symm) hH ⟨h_sp, h_FF, hbg⟩ ⟨by decide, by decide, by decide, by decide⟩ ⟨by decide, by decide⟩ dX6_scale_35 dX6_scale_38 dX6_scale_39 dX6_scale_41 dX6_scale_44
  · replace hf := (if_pos c11).symm.trans hf
    cases hf
    exact zthr_a hx hb hst hQ hnh hlocks hown hts zk_t2_158 zk_t1_11 hX (is := 110) (text := "hundredths are 1 to 400") (by decide +kernel) (hl.1.trans hml.symm) hH ⟨h_sp, h_FF, hbg⟩ ⟨by decide, by decide, by decide, by decide⟩ ⟨by decide, by decide⟩ dX6_scale_17 dX6_scale_20 dX6_scale_21 dX6_scale_23 dX6_scale_26
abbrev rmX6_bound : Room := { frames := 6, cells := 1, slots := 6, locals := 92 }
theorem hd_X6_bound : yX6_bound.cls = RX6 ∧ yX6_bound.cls ≠ "java/lang/invoke/MethodHandle" ∧ yX6_bound.cls ≠ "java/lang/invoke/VarHandle" ∧ (parseMethodDescriptor yX6_bound.desc).map (fun d => d.parameters.length) = some 1 := by decide +kernel
set_option maxHeartbeats 4000000 in
set_option maxRecDepth 100000 in
theorem c_X6_bound {l : Launch} {D : va_G} {cI cZ cF cL cD : ClassId} {ad : Nat → Nat} {N : Nat} (hI : ∀ i j, i < N → j < N → ad i = ad j → i = j) (hN : 19 ≤ N) (hst : l.stackTraces = false) {σ0 : Nat → va_E} {sz : Nat} {sp_fieldCount : Int} {sp_trimBound : Int} {sp_planned : Int} {p1 : Int} {Rt : Int} {R0 : Int} {R_sp_trimBound : Int} {R_sp_planned : Int} (h_sp : σ0 0 = oC_sp ad sp_fieldCount sp_trimBound sp_planned) (hf : f_X6_bound sp_trimBound sp_planned p1 = some (Rt, R0, R_sp_trimBound, R_sp_planned)) :
    vx_Met l yX6_bound (Cond.code yX6_bound cX6_bound 3 (some .int) :: wsL_law) rmX6_bound (zPreX D ad N (zT cI cZ cF cL cD) σ0 sz [.ref (ad 0), .int (zI p1)]) (zQi D ad N sz (fun r σ' => Rt = 0 ∧ r = zI R0 ∧ σ' 0 = oC_sp ad sp_fieldCount R_sp_trimBound R_sp_planned ∧ ∀ i : Nat, i ≠ 0 → σ' i = σ0 i)) (zXC D ad N sz Rt (fun σ' => σ' 0 = oC_sp ad sp_fieldCount R_sp_trimBound R_sp_planned ∧ ∀ i : Nat, i ≠ 0 → σ' i = σ0 i)) 1 6 (zFr ad N sz) := by
  refine zMetX hI (by decide) (Nat.le_of_ble_eq_true rfl) ?_
  intro p e s m args below meth c Q hx hb hr hlocks hml hown hts hnh hK hX hsz hQ hH hA ls hl
  subst hsz
  have hk_sp : 0 < N := by omega
  have hl : lv_has ls 3 [(0, .ref (ad 0)), (1, .int (zI p1))] := hl
  have hbg : ∀ i : Nat, i ≠ 0 → σ0 i = σ0 i := fun _ _ => rfl
  unfold f_X6_bound at hf
  refine lv_iload_n hx hb dX6_bound_0 rfl (lv_at hl 1 rfl) ?_
  refine lv_iconst (v := zI 0) hx hb dX6_bound_1 (by decide +kernel) ?_
  refine lv_bipush (v := zI 100) hx hb dX6_bound_2 (by decide +kernel) ?_
  obtain ⟨r1, k2, hf⟩ := zb1_some hf
  refine zcSi (As := [.int (zI p1), .int (zI 0), .int (zI 100)]) (rest := []) hx hb hml hown hts hl.1 hK hH hA (c_X6_isWithin hI hN   k2) zk_t2_87 zk_t2_88 zk_t1_1 zk_t2_89 hd_X6_isWithin rfl ⟨rfl, rfl, Nat.le_of_ble_eq_true rfl, Nat.le_of_ble_eq_true rfl⟩ ⟨by decide, by decide⟩ rfl (Nat.le_of_ble_eq_true rfl) dX6_bound_4 (fun q4 σ3 Hσ3 lσ3 hp hH => ?_)
  obtain ⟨hr1, hs1⟩ := hp; subst hr1; rw [hs1] at hH
  obtain ⟨k5, hf⟩ := zck_some hf
  refine lz_if_ne (tgt := 20) hx hb k5 dX6_bound_7 (by decide) (fun c6 => ?_) (fun c6 => ?_)
  · replace hf := (if_neg c6).symm.trans hf
    refine lv_aload_n hx hb dX6_bound_20 rfl (lv_at hl 0 rfl) ?_
    refine zget hx hb inlX6 rfl 7 rfl zk_t1_156 hts hown hK hH hk_sp h_sp rfl dX6_bound_21 ?_
    refine lv_istore_n (lv' := [(2, .int (zI sp_trimBound)), (0, .ref (ad 0)), (1, .int (zI p1))]) hx hb dX6_bound_24 rfl hl (by decide) rfl (fun ls hl => ?_)
    refine lv_aload_n hx hb dX6_bound_25 rfl (lv_at hl 1 rfl) ?_
    refine lv_iload_n hx hb dX6_bound_26 rfl (lv_at hl 2 rfl) ?_
    refine zput hx hb inlX6 tyX6 tyX6_ok nmX6 rfl 7 rfl zk_t1_156 rfl hts hown hK hH hk_sp h_sp rfl rfl rfl dX6_bound_27 (fun σ7 Hσ7 lσ7 h_sp hn hH => ?_)
    have h_sp : σ7 0 = oC_sp ad sp_fieldCount p1 sp_planned := h_sp
    have hbg : ∀ i : Nat, i ≠ 0 → σ7 i = σ0 i := fun i a0 => (hn i a0).trans (hbg i a0)
    refine lv_aload_n hx hb dX6_bound_30 rfl (lv_at hl 1 rfl) ?_
    refine lv_iconst (v := zI 0) hx hb dX6_bound_31 (by decide +kernel) ?_
    refine zput hx hb inlX6 tyX6 tyX6_ok nmX6 rfl 8 rfl zk_t1_157 rfl hts hown hK hH hk_sp h_sp (z_nar _ (Or.inl rfl)) (z_fit _ (Or.inl rfl)) rfl dX6_bound_32 (fun σ8 Hσ8 lσ8 h_sp hn hH => ?_)
    have h_sp : σ8 0 = oC_sp ad sp_fieldCount p1 0 := h_sp
    have hbg : ∀ i : Nat, i ≠ 0 → σ8 i = σ0 i := fun i a0 => (hn i a0).trans (hbg i a0)
    refine lv_iload_n hx hb dX6_bound_35 rfl (lv_at hl 0 rfl) ?_
    cases hf
    exact zxreti hx hb hr hlocks hQ hH ⟨rfl, rfl, h_sp, hbg⟩ ⟨by decide, by decide⟩ dX6_bound_36
  · replace hf := (if_pos c6).symm.trans hf
    cases hf
    exact zthr_a hx hb hst hQ hnh hlocks hown hts zk_t2_158 zk_t1_11 hX (is := 122) (text := "a bound is 0 to 100") (by decide +kernel) (hl.1.trans hml.symm) hH ⟨h_sp, hbg⟩ ⟨by decide, by decide, by decide, by decide⟩ ⟨by decide, by decide⟩ dX6_bound_10 dX6_bound_13 dX6_bound_14 dX6_bound_16 dX6_bound_19
abbrev rmX6_commands : Room := { frames := 7, cells := 0, slots := 0, locals := 167 }
theorem hd_X6_commands : yX6_commands.cls = RX6 ∧ yX6_commands.cls ≠ "java/lang/invoke/MethodHandle" ∧ yX6_commands.cls ≠ "java/lang/invoke/VarHandle" ∧ (parseMethodDescriptor yX6_commands.desc).map (fun d => d.parameters.length) = some 0 := by decide +kernel
set_option maxHeartbeats 4000000 in
set_option maxRecDepth 100000 in
theorem c_X6_commands {l : Launch} {D : va_G} {cI cZ cF cL cD : ClassId} {ad : Nat → Nat} {N : Nat} (hI : ∀ i j, i < N → j < N → ad i = ad j → i = j) (hN : 19 ≤ N) {nF : Int} (hNF : N = 19 + 7 * nF.toNat) {σ0 : Nat → va_E} {sz : Nat} {sp_waiting : Int → Int} {sp_fieldCount : Int} {sp_trimBound : Int} {sp_planned : Int} {F_fd_colour : Int → Int} {F_fd_layer : Int → Int} {F_fd_column : Int → Int} {F_fd_cornerXs : Int → Int → Int} {F_fd_cornerYs : Int → Int → Int} {F_fd_crossings : Int → Int → Int} {F_fd_cornerCount : Int → Int} {F_fd_crossingCount : Int → Int} {F_fd_density : Int → Int} {F_fd_length : Int → Int} {F_fd_shift : Int → Int} {F_fd_pull : Int → Int} {F_fd_underlay : Int → Int} {F_fd_drawn : Int → Int} {F_pt_xs : Int → Int → Int} {F_pt_ys : Int → Int → Int} {F_pt_size : Int → Int} {pl_kinds : Int → Int} {pl_differencesX : Int → Int} {pl_differencesY : Int → Int} {pl_owners : Int → Int} {pl_kindCounts : Int → Int} {pl_threads : Int → Int} {pl_size : Int} {pl_seconds : UInt32} {pl_needleX : Int} {pl_needleY : Int} {pl_colour : Int} {R0 : Int} {R_sp_waiting : Int → Int} {R_sp_planned : Int} {R_F_fd_crossings : Int → Int → Int} {R_F_fd_crossingCount : Int → Int} {R_F_fd_drawn : Int → Int} {R_F_pt_xs : Int → Int → Int} {R_F_pt_ys : Int → Int → Int} {R_F_pt_size : Int → Int} {R_pl_kinds : Int → Int} {R_pl_differencesX : Int → Int} {R_pl_differencesY : Int → Int} {R_pl_owners : Int → Int} {R_pl_kindCounts : Int → Int} {R_pl_threads : Int → Int} {R_pl_size : Int} {R_pl_seconds : UInt32} {R_pl_needleX : Int} {R_pl_needleY : Int} {R_pl_colour : Int} (h_sp : σ0 0 = oC_sp ad sp_fieldCount sp_trimBound sp_planned) (h_sp_fields : σ0 1 = .inl (cF, 8, .inr (.inr (.inr (.inr (zFA ad nF)))))) (h_sp_waiting : σ0 2 = .inl (cZ, 8, .inl (zA sp_waiting))) (h_pl : σ0 3 = oC_pl ad pl_size pl_seconds pl_needleX pl_needleY pl_colour) (h_pl_kinds : σ0 4 = .inl (cI, 16641, .inl (zA pl_kinds))) (h_pl_differencesX : σ0 5 = .inl (cI, 16641, .inl (zA pl_differencesX))) (h_pl_differencesY : σ0 6 = .inl (cI, 16641, .inl (zA pl_differencesY))) (h_pl_owners : σ0 7 = .inl (cI, 16641, .inl (zA pl_owners))) (h_pl_kindCounts : σ0 8 = .inl (cI, 5, .inl (zA pl_kindCounts))) (h_pl_threads : σ0 9 = .inl (cI, 6, .inl (zA pl_threads))) (h_FF : zFF ad cI nF σ0 F_fd_colour F_fd_layer F_fd_column F_fd_cornerXs F_fd_cornerYs F_fd_crossings F_fd_cornerCount F_fd_crossingCount F_fd_density F_fd_length F_fd_shift F_fd_pull F_fd_underlay F_fd_drawn F_pt_xs F_pt_ys F_pt_size) (hf : f_X6_commands sp_waiting sp_trimBound sp_planned F_fd_colour F_fd_layer F_fd_column F_fd_cornerXs F_fd_cornerYs F_fd_crossings F_fd_cornerCount F_fd_crossingCount F_fd_density F_fd_length F_fd_shift F_fd_pull F_fd_underlay F_fd_drawn F_pt_xs F_pt_ys F_pt_size pl_kinds pl_differencesX pl_differencesY pl_owners pl_kindCounts pl_threads pl_size pl_seconds pl_needleX pl_needleY pl_colour nF = some (R0, R_sp_waiting, R_sp_planned, R_F_fd_crossings, R_F_fd_crossingCount, R_F_fd_drawn, R_F_pt_xs, R_F_pt_ys, R_F_pt_size, R_pl_kinds, R_pl_differencesX, R_pl_differencesY, R_pl_owners, R_pl_kindCounts, R_pl_threads, R_pl_size, R_pl_seconds, R_pl_needleX, R_pl_needleY, R_pl_colour)) :
    Met l yX6_commands (Cond.code yX6_commands cX6_commands 1 (some .int) :: wsL_law) rmX6_commands (zPre D ad N (zT cI cZ cF cL cD) σ0 sz [.ref (ad 0)]) (zQi D ad N sz (fun r σ' => r = zI R0 ∧ σ' 0 = oC_sp ad sp_fieldCount sp_trimBound R_sp_planned ∧ σ' 2 = .inl (cZ, 8, .inl (zA R_sp_waiting)) ∧ σ' 3 = oC_pl ad R_pl_size R_pl_seconds R_pl_needleX R_pl_needleY R_pl_colour ∧ σ' 4 = .inl (cI, 16641, .inl (zA R_pl_kinds)) ∧ σ' 5 = .inl (cI, 16641, .inl (zA R_pl_differencesX)) ∧ σ' 6 = .inl (cI, 16641, .inl (zA R_pl_differencesY)) ∧ σ' 7 = .inl (cI, 16641, .inl (zA R_pl_owners)) ∧ σ' 8 = .inl (cI, 5, .inl (zA R_pl_kindCounts)) ∧ σ' 9 = .inl (cI, 6, .inl (zA R_pl_threads)) ∧ zFF ad cI nF σ' F_fd_colour F_fd_layer F_fd_column F_fd_cornerXs F_fd_cornerYs R_F_fd_crossings F_fd_cornerCount R_F_fd_crossingCount F_fd_density F_fd_length F_fd_shift F_fd_pull F_fd_underlay R_F_fd_drawn R_F_pt_xs R_F_pt_ys R_F_pt_size ∧ ∀ i : Nat, i < 19 → i ≠ 0 → i ≠ 2 → i ≠ 3 → i ≠ 4 → i ≠ 5 → i ≠ 6 → i ≠ 7 → i ≠ 8 → i ≠ 9 → σ' i = σ0 i)) 0 0 (zFr ad N sz) := by
  refine zMet hI (plainFor_of_name (by decide)) (Nat.le_of_ble_eq_true rfl) ⟨rfl, rfl⟩ ?_
  intro p e s m args below meth c Q hx hb hr hlocks hml hown hts hK hsz hQ hH hA ls hl
  subst hsz
  have hk_sp : 0 < N := by omega
  have hk_sp_fields : 1 < N := by omega
  have hk_sp_waiting : 2 < N := by omega
  have hk_pl : 3 < N := by omega
  have hk_pl_kinds : 4 < N := by omega
  have hk_pl_differencesX : 5 < N := by omega
  have hk_pl_differencesY : 6 < N := by omega
  have hk_pl_owners : 7 < N := by omega
  have hk_pl_kindCounts : 8 < N := by omega
  have hk_pl_threads : 9 < N := by omega
  have hl : lv_has ls 1 [(0, .ref (ad 0))] := hl
  have hbg : ∀ i : Nat, i < 19 → i ≠ 0 → i ≠ 2 → i ≠ 3 → i ≠ 4 → i ≠ 5 → i ≠ 6 → i ≠ 7 → i ≠ 8 → i ≠ 9 → σ0 i = σ0 i := fun _ _ _ _ _ _ _ _ _ _ _ => rfl
  unfold f_X6_commands at hf
  refine lv_aload_n hx hb dX6_commands_0 rfl (lv_at hl 0 rfl) ?_
  obtain ⟨a1, u2, u3, u4, u5, u6, u7, u8, a9, a10, a11, a12, a13, a14, u15, u16, u17, u18, u19, k20, hf⟩ := zb19_some hf
  refine zcVv (C := RX6) (As := []) (rest := []) hx hb hml hown hts hl.1 hK hH hA (c_X6_refresh hI hN hNF  h_sp h_sp_fields h_sp_waiting h_pl h_pl_kinds h_pl_differencesX h_pl_differencesY h_pl_owners h_pl_kindCounts h_pl_threads h_FF k20) zk_t1_193 zk_t1_195 zk_s1_0 zk_t1_1 zk_t1_196 hd_X6_refresh rfl ⟨rfl, rfl, Nat.le_of_ble_eq_true rfl, Nat.le_of_ble_eq_true rfl⟩ ⟨Nat.zero_le _, Nat.zero_le _⟩ hk_sp h_sp rfl rfl rfl (Nat.le_of_ble_eq_true rfl) dX6_commands_1 (fun σ21 Hσ21 lσ21 hp hH => ?_)
  obtain ⟨h_sp, h_sp_waiting, h_pl, h_pl_kinds, h_pl_differencesX, h_pl_differencesY, h_pl_owners, h_pl_kindCounts, h_pl_threads, h_FF, hn⟩ := hp
  have h_sp_fields := (hn 1 (by decide) (by decide) (by decide) (by decide) (by decide) (by decide) (by decide) (by decide) (by decide) (by decide)).trans h_sp_fields
  have hbg : ∀ i : Nat, i < 19 → i ≠ 0 → i ≠ 2 → i ≠ 3 → i ≠ 4 → i ≠ 5 → i ≠ 6 → i ≠ 7 → i ≠ 8 → i ≠ 9 → σ21 i = σ0 i := fun i h46 a0 a1 a2 a3 a4 a5 a6 a7 a8 => (hn i h46 a0 a1 a2 a3 a4 a5 a6 a7 a8).trans (hbg i h46 a0 a1 a2 a3 a4 a5 a6 a7 a8)
  refine lv_aload_n hx hb dX6_commands_4 rfl (lv_at hl 0 rfl) ?_
  refine zget hx hb inlX6 rfl 2 rfl zk_t1_151 hts hown hK hH hk_sp h_sp rfl dX6_commands_5 ?_
  refine zget hx hb inlX3 rfl 6 rfl zk_t1_42 hts hown hK hH hk_pl h_pl rfl dX6_commands_8 ?_
  cases hf
  exact zreti hx hb hr hlocks hQ hH ⟨rfl, h_sp, h_sp_waiting, h_pl, h_pl_kinds, h_pl_differencesX, h_pl_differencesY, h_pl_owners, h_pl_kindCounts, h_pl_threads, h_FF, hbg⟩ dX6_commands_11
abbrev rmX6_ofCommand : Room := { frames := 7, cells := 1, slots := 6, locals := 167 }
theorem hd_X6_ofCommand : yX6_ofCommand.cls = RX6 ∧ yX6_ofCommand.cls ≠ "java/lang/invoke/MethodHandle" ∧ yX6_ofCommand.cls ≠ "java/lang/invoke/VarHandle" ∧ (parseMethodDescriptor yX6_ofCommand.desc).map (fun d => d.parameters.length) = some 2 := by decide +kernel
set_option maxHeartbeats 4000000 in
set_option maxRecDepth 100000 in
theorem c_X6_ofCommand {l : Launch} {D : va_G} {cI cZ cF cL cD : ClassId} {ad : Nat → Nat} {N : Nat} (hI : ∀ i j, i < N → j < N → ad i = ad j → i = j) (hN : 19 ≤ N) {nF : Int} (hNF : N = 19 + 7 * nF.toNat) (hst : l.stackTraces = false) {σ0 : Nat → va_E} {sz : Nat} {sp_waiting : Int → Int} {sp_fieldCount : Int} {sp_trimBound : Int} {sp_planned : Int} {F_fd_colour : Int → Int} {F_fd_layer : Int → Int} {F_fd_column : Int → Int} {F_fd_cornerXs : Int → Int → Int} {F_fd_cornerYs : Int → Int → Int} {F_fd_crossings : Int → Int → Int} {F_fd_cornerCount : Int → Int} {F_fd_crossingCount : Int → Int} {F_fd_density : Int → Int} {F_fd_length : Int → Int} {F_fd_shift : Int → Int} {F_fd_pull : Int → Int} {F_fd_underlay : Int → Int} {F_fd_drawn : Int → Int} {F_pt_xs : Int → Int → Int} {F_pt_ys : Int → Int → Int} {F_pt_size : Int → Int} {pl_kinds : Int → Int} {pl_differencesX : Int → Int} {pl_differencesY : Int → Int} {pl_owners : Int → Int} {pl_kindCounts : Int → Int} {pl_threads : Int → Int} {pl_size : Int} {pl_seconds : UInt32} {pl_needleX : Int} {pl_needleY : Int} {pl_colour : Int} {p1 : Int} {p2 : Int} {Rt : Int} {R0 : Int} {R_sp_waiting : Int → Int} {R_sp_planned : Int} {R_F_fd_crossings : Int → Int → Int} {R_F_fd_crossingCount : Int → Int} {R_F_fd_drawn : Int → Int} {R_F_pt_xs : Int → Int → Int} {R_F_pt_ys : Int → Int → Int} {R_F_pt_size : Int → Int} {R_pl_kinds : Int → Int} {R_pl_differencesX : Int → Int} {R_pl_differencesY : Int → Int} {R_pl_owners : Int → Int} {R_pl_kindCounts : Int → Int} {R_pl_threads : Int → Int} {R_pl_size : Int} {R_pl_seconds : UInt32} {R_pl_needleX : Int} {R_pl_needleY : Int} {R_pl_colour : Int} (h_sp : σ0 0 = oC_sp ad sp_fieldCount sp_trimBound sp_planned) (h_sp_fields : σ0 1 = .inl (cF, 8, .inr (.inr (.inr (.inr (zFA ad nF)))))) (h_sp_waiting : σ0 2 = .inl (cZ, 8, .inl (zA sp_waiting))) (h_pl : σ0 3 = oC_pl ad pl_size pl_seconds pl_needleX pl_needleY pl_colour) (h_pl_kinds : σ0 4 = .inl (cI, 16641, .inl (zA pl_kinds))) (h_pl_differencesX : σ0 5 = .inl (cI, 16641, .inl (zA pl_differencesX))) (h_pl_differencesY : σ0 6 = .inl (cI, 16641, .inl (zA pl_differencesY))) (h_pl_owners : σ0 7 = .inl (cI, 16641, .inl (zA pl_owners))) (h_pl_kindCounts : σ0 8 = .inl (cI, 5, .inl (zA pl_kindCounts))) (h_pl_threads : σ0 9 = .inl (cI, 6, .inl (zA pl_threads))) (h_FF : zFF ad cI nF σ0 F_fd_colour F_fd_layer F_fd_column F_fd_cornerXs F_fd_cornerYs F_fd_crossings F_fd_cornerCount F_fd_crossingCount F_fd_density F_fd_length F_fd_shift F_fd_pull F_fd_underlay F_fd_drawn F_pt_xs F_pt_ys F_pt_size) (hf : f_X6_ofCommand sp_waiting sp_trimBound sp_planned F_fd_colour F_fd_layer F_fd_column F_fd_cornerXs F_fd_cornerYs F_fd_crossings F_fd_cornerCount F_fd_crossingCount F_fd_density F_fd_length F_fd_shift F_fd_pull F_fd_underlay F_fd_drawn F_pt_xs F_pt_ys F_pt_size pl_kinds pl_differencesX pl_differencesY pl_owners pl_kindCounts pl_threads pl_size pl_seconds pl_needleX pl_needleY pl_colour nF p1 p2 = some (Rt, R0, R_sp_waiting, R_sp_planned, R_F_fd_crossings, R_F_fd_crossingCount, R_F_fd_drawn, R_F_pt_xs, R_F_pt_ys, R_F_pt_size, R_pl_kinds, R_pl_differencesX, R_pl_differencesY, R_pl_owners, R_pl_kindCounts, R_pl_threads, R_pl_size, R_pl_seconds, R_pl_needleX, R_pl_needleY, R_pl_colour)) :
    vx_Met l yX6_ofCommand (Cond.code yX6_ofCommand cX6_ofCommand 3 (some .int) :: wsL_law) rmX6_ofCommand (zPreX D ad N (zT cI cZ cF cL cD) σ0 sz [.ref (ad 0), .int (zI p1), .int (zI p2)]) (zQi D ad N sz (fun r σ' => Rt = 0 ∧ r = zI R0 ∧ σ' 0 = oC_sp ad sp_fieldCount sp_trimBound R_sp_planned ∧ σ' 2 = .inl (cZ, 8, .inl (zA R_sp_waiting)) ∧ σ' 3 = oC_pl ad R_pl_size R_pl_seconds R_pl_needleX R_pl_needleY R_pl_colour ∧ σ' 4 = .inl (cI, 16641, .inl (zA R_pl_kinds)) ∧ σ' 5 = .inl (cI, 16641, .inl (zA R_pl_differencesX)) ∧ σ' 6 = .inl (cI, 16641, .inl (zA R_pl_differencesY)) ∧ σ' 7 = .inl (cI, 16641, .inl (zA R_pl_owners)) ∧ σ' 8 = .inl (cI, 5, .inl (zA R_pl_kindCounts)) ∧ σ' 9 = .inl (cI, 6, .inl (zA R_pl_threads)) ∧ zFF ad cI nF σ' F_fd_colour F_fd_layer F_fd_column F_fd_cornerXs F_fd_cornerYs R_F_fd_crossings F_fd_cornerCount R_F_fd_crossingCount F_fd_density F_fd_length F_fd_shift F_fd_pull F_fd_underlay R_F_fd_drawn R_F_pt_xs R_F_pt_ys R_F_pt_size ∧ ∀ i : Nat, i < 19 → i ≠ 0 → i ≠ 2 → i ≠ 3 → i ≠ 4 → i ≠ 5 → i ≠ 6 → i ≠ 7 → i ≠ 8 → i ≠ 9 → σ' i = σ0 i)) (zXC D ad N sz Rt (fun σ' => σ' 0 = oC_sp ad sp_fieldCount sp_trimBound R_sp_planned ∧ σ' 2 = .inl (cZ, 8, .inl (zA R_sp_waiting)) ∧ σ' 3 = oC_pl ad R_pl_size R_pl_seconds R_pl_needleX R_pl_needleY R_pl_colour ∧ σ' 4 = .inl (cI, 16641, .inl (zA R_pl_kinds)) ∧ σ' 5 = .inl (cI, 16641, .inl (zA R_pl_differencesX)) ∧ σ' 6 = .inl (cI, 16641, .inl (zA R_pl_differencesY)) ∧ σ' 7 = .inl (cI, 16641, .inl (zA R_pl_owners)) ∧ σ' 8 = .inl (cI, 5, .inl (zA R_pl_kindCounts)) ∧ σ' 9 = .inl (cI, 6, .inl (zA R_pl_threads)) ∧ zFF ad cI nF σ' F_fd_colour F_fd_layer F_fd_column F_fd_cornerXs F_fd_cornerYs R_F_fd_crossings F_fd_cornerCount R_F_fd_crossingCount F_fd_density F_fd_length F_fd_shift F_fd_pull F_fd_underlay R_F_fd_drawn R_F_pt_xs R_F_pt_ys R_F_pt_size ∧ ∀ i : Nat, i < 19 → i ≠ 0 → i ≠ 2 → i ≠ 3 → i ≠ 4 → i ≠ 5 → i ≠ 6 → i ≠ 7 → i ≠ 8 → i ≠ 9 → σ' i = σ0 i)) 1 6 (zFr ad N sz) := by
  refine zMetX hI (by decide) (Nat.le_of_ble_eq_true rfl) ?_
  intro p e s m args below meth c Q hx hb hr hlocks hml hown hts hnh hK hX hsz hQ hH hA ls hl
  subst hsz
  have hk_sp : 0 < N := by omega
  have hk_sp_fields : 1 < N := by omega
  have hk_sp_waiting : 2 < N := by omega
  have hk_pl : 3 < N := by omega
  have hk_pl_kinds : 4 < N := by omega
  have hk_pl_differencesX : 5 < N := by omega
  have hk_pl_differencesY : 6 < N := by omega
  have hk_pl_owners : 7 < N := by omega
  have hk_pl_kindCounts : 8 < N := by omega
  have hk_pl_threads : 9 < N := by omega
  have hl : lv_has ls 3 [(0, .ref (ad 0)), (1, .int (zI p1)), (2, .int (zI p2))] := hl
  have hbg : ∀ i : Nat, i < 19 → i ≠ 0 → i ≠ 2 → i ≠ 3 → i ≠ 4 → i ≠ 5 → i ≠ 6 → i ≠ 7 → i ≠ 8 → i ≠ 9 → σ0 i = σ0 i := fun _ _ _ _ _ _ _ _ _ _ _ => rfl
  unfold f_X6_ofCommand at hf
  refine lv_aload_n hx hb dX6_ofCommand_0 rfl (lv_at hl 0 rfl) ?_
  obtain ⟨a1, u2, u3, u4, u5, u6, u7, u8, a9, a10, a11, a12, a13, a14, u15, u16, u17, u18, u19, k20, hf⟩ := zb19_some hf
  refine zcVv (C := RX6) (As := []) (rest := []) hx hb hml hown hts hl.1 hK hH hA (c_X6_refresh hI hN hNF  h_sp h_sp_fields h_sp_waiting h_pl h_pl_kinds h_pl_differencesX h_pl_differencesY h_pl_owners h_pl_kindCounts h_pl_threads h_FF k20) zk_t1_193 zk_t1_195 zk_s1_0 zk_t1_1 zk_t1_196 hd_X6_refresh rfl ⟨rfl, rfl, Nat.le_of_ble_eq_true rfl, Nat.le_of_ble_eq_true rfl⟩ ⟨by decide, by decide⟩ hk_sp h_sp rfl rfl rfl (Nat.le_of_ble_eq_true rfl) dX6_ofCommand_1 (fun σ21 Hσ21 lσ21 hp hH => ?_)
  obtain ⟨h_sp, h_sp_waiting, h_pl, h_pl_kinds, h_pl_differencesX, h_pl_differencesY, h_pl_owners, h_pl_kindCounts, h_pl_threads, h_FF, hn⟩ := hp
  have h_sp_fields := (hn 1 (by decide) (by decide) (by decide) (by decide) (by decide) (by decide) (by decide) (by decide) (by decide) (by decide)).trans h_sp_fields
  have hbg : ∀ i : Nat, i < 19 → i ≠ 0 → i ≠ 2 → i ≠ 3 → i ≠ 4 → i ≠ 5 → i ≠ 6 → i ≠ 7 → i ≠ 8 → i ≠ 9 → σ21 i = σ0 i := fun i h46 a0 a1 a2 a3 a4 a5 a6 a7 a8 => (hn i h46 a0 a1 a2 a3 a4 a5 a6 a7 a8).trans (hbg i h46 a0 a1 a2 a3 a4 a5 a6 a7 a8)
  refine lv_iload_n hx hb dX6_ofCommand_4 rfl (lv_at hl 1 rfl) ?_
  refine lv_iconst (v := zI 0) hx hb dX6_ofCommand_5 (by decide +kernel) ?_
  refine lv_aload_n hx hb dX6_ofCommand_6 rfl (lv_at hl 0 rfl) ?_
  refine zget hx hb inlX6 rfl 2 rfl zk_t1_151 hts hown hK hH hk_sp h_sp rfl dX6_ofCommand_7 ?_
  refine zget hx hb inlX3 rfl 6 rfl zk_t1_42 hts hown hK hH hk_pl h_pl rfl dX6_ofCommand_10 ?_
  refine lv_iconst (v := zI 1) hx hb dX6_ofCommand_13 (by decide +kernel) ?_
  refine lz_isub hx hb dX6_ofCommand_14 ?_
  obtain ⟨r22, k23, hf⟩ := zb1_some hf
  refine zcSi (As := [.int (zI p1), .int (zI 0), .int (zI (u15 - 1))]) (rest := []) hx hb hml hown hts hl.1 hK hH hA (c_X6_isWithin hI hN   k23) zk_t2_87 zk_t2_88 zk_t1_1 zk_t2_89 hd_X6_isWithin rfl ⟨rfl, rfl, Nat.le_of_ble_eq_true rfl, Nat.le_of_ble_eq_true rfl⟩ ⟨by decide, by decide⟩ rfl (Nat.le_of_ble_eq_true rfl) dX6_ofCommand_15 (fun q25 σ24 Hσ24 lσ24 hp hH => ?_)
  obtain ⟨hr1, hs1⟩ := hp; subst hr1; rw [hs1] at hH
  obtain ⟨k26, hf⟩ := zck_some hf
  refine lz_if_ne (tgt := 31) hx hb k26 dX6_ofCommand_18 (by decide) (fun c27 => ?_) (fun c27 => ?_)
  · replace hf := (if_neg c27).symm.trans hf
    refine lv_iload_n hx hb dX6_ofCommand_31 rfl (lv_at hl 2 rfl) ?_
    refine lv_iconst (v := zI 0) hx hb dX6_ofCommand_32 (by decide +kernel) ?_
    refine lv_iconst (v := zI 3) hx hb dX6_ofCommand_33 (by decide +kernel) ?_
    obtain ⟨r28, k29, hf⟩ := zb1_some hf
    refine zcSi (As := [.int (zI p2), .int (zI 0), .int (zI 3)]) (rest := []) hx hb hml hown hts hl.1 hK hH hA (c_X6_isWithin hI hN   k29) zk_t2_87 zk_t2_88 zk_t1_1 zk_t2_89 hd_X6_isWithin rfl ⟨rfl, rfl, Nat.le_of_ble_eq_true rfl, Nat.le_of_ble_eq_true rfl⟩ ⟨by decide, by decide⟩ rfl (Nat.le_of_ble_eq_true rfl) dX6_ofCommand_34 (fun q31 σ30 Hσ30 lσ30 hp hH => ?_)
    obtain ⟨hr1, hs1⟩ := hp; subst hr1; rw [hs1] at hH
    obtain ⟨k32, hf⟩ := zck_some hf
    refine lz_if_ne (tgt := 50) hx hb k32 dX6_ofCommand_37 (by decide) (fun c33 => ?_) (fun c33 => ?_)
    · replace hf := (if_neg c33).symm.trans hf
      refine lv_aload_n hx hb dX6_ofCommand_50 rfl (lv_at hl 0 rfl) ?_
      refine zget hx hb inlX6 rfl 2 rfl zk_t1_151 hts hown hK hH hk_sp h_sp rfl dX6_ofCommand_51 ?_
      refine lv_iload_n hx hb dX6_ofCommand_54 rfl (lv_at hl 1 rfl) ?_
      refine lv_iload_n hx hb dX6_ofCommand_55 rfl (lv_at hl 2 rfl) ?_
      obtain ⟨r34, k35, hf⟩ := zb1_some hf
      refine zcVi (C := RX3) (As := [.int (zI p1), .int (zI p2)]) (rest := []) hx hb hml hown hts hl.1 hK hH hA (c_X3_told hI hN  h_pl h_pl_kinds h_pl_differencesX h_pl_differencesY h_pl_owners k35) zk_t2_174 zk_t2_175 zk_t2_176 zk_t1_2 zk_t2_177 hd_X3_told rfl ⟨rfl, rfl, Nat.le_of_ble_eq_true rfl, Nat.le_of_ble_eq_true rfl⟩ ⟨by decide, by decide⟩ hk_pl h_pl rfl rfl rfl (Nat.le_of_ble_eq_true rfl) dX6_ofCommand_56 (fun q37 σ36 Hσ36 lσ36 hp hH => ?_)
      obtain ⟨hr1, hs1⟩ := hp; subst hr1; rw [hs1] at hH
      cases hf
      exact zxreti hx hb hr hlocks hQ hH ⟨rfl, rfl, h_sp, h_sp_waiting, h_pl, h_pl_kinds, h_pl_differencesX, h_pl_differencesY, h_pl_owners, h_pl_kindCounts, h_pl_threads, h_FF, hbg⟩ ⟨by decide, by decide⟩ dX6_ofCommand_59
    · replace hf := (if_pos c33).symm.trans hf
      cases hf
      exact zthr_a hx hb hst hQ hnh hlocks hown hts zk_t2_158 zk_t1_11 hX (is := 135) (text := "there are 0 to 3 to tell") (by decide +kernel) (hl.1.trans hml.symm) hH ⟨h_sp, h_sp_waiting, h_pl, h_pl_kinds, h_pl_differencesX, h_pl_differencesY, h_pl_owners, h_pl_kindCounts, h_pl_threads, h_FF, hbg⟩ ⟨by decide, by decide, by decide, by decide⟩ ⟨by decide, by decide⟩ dX6_ofCommand_40 dX6_ofCommand_43 dX6_ofCommand_44 dX6_ofCommand_46 dX6_ofCommand_49
  · replace hf := (if_pos c27).symm.trans hf
    cases hf
    exact zthr_i hx hb hst hQ hnh hlocks hown hts zk_t2_90 zk_t1_10 hX (is := 132) (text := "there is no such command") (by decide +kernel) (hl.1.trans hml.symm) hH ⟨h_sp, h_sp_waiting, h_pl, h_pl_kinds, h_pl_differencesX, h_pl_differencesY, h_pl_owners, h_pl_kindCounts, h_pl_threads, h_FF, hbg⟩ ⟨by decide, by decide, by decide, by decide⟩ ⟨by decide, by decide⟩ dX6_ofCommand_21 dX6_ofCommand_24 dX6_ofCommand_25 dX6_ofCommand_27 dX6_ofCommand_30
abbrev rmX6_count : Room := { frames := 7, cells := 1, slots := 6, locals := 167 }
theorem hd_X6_count : yX6_count.cls = RX6 ∧ yX6_count.cls ≠ "java/lang/invoke/MethodHandle" ∧ yX6_count.cls ≠ "java/lang/invoke/VarHandle" ∧ (parseMethodDescriptor yX6_count.desc).map (fun d => d.parameters.length) = some 1 := by decide +kernel
set_option maxHeartbeats 4000000 in
set_option maxRecDepth 100000 in
theorem c_X6_count {l : Launch} {D : va_G} {cI cZ cF cL cD : ClassId} {ad : Nat → Nat} {N : Nat} (hI : ∀ i j, i < N → j < N → ad i = ad j → i = j) (hN : 19 ≤ N) {nF : Int} (hNF : N = 19 + 7 * nF.toNat) (hst : l.stackTraces = false) {σ0 : Nat → va_E} {sz : Nat} {sp_waiting : Int → Int} {sp_fieldCount : Int} {sp_trimBound : Int} {sp_planned : Int} {F_fd_colour : Int → Int} {F_fd_layer : Int → Int} {F_fd_column : Int → Int} {F_fd_cornerXs : Int → Int → Int} {F_fd_cornerYs : Int → Int → Int} {F_fd_crossings : Int → Int → Int} {F_fd_cornerCount : Int → Int} {F_fd_crossingCount : Int → Int} {F_fd_density : Int → Int} {F_fd_length : Int → Int} {F_fd_shift : Int → Int} {F_fd_pull : Int → Int} {F_fd_underlay : Int → Int} {F_fd_drawn : Int → Int} {F_pt_xs : Int → Int → Int} {F_pt_ys : Int → Int → Int} {F_pt_size : Int → Int} {pl_kinds : Int → Int} {pl_differencesX : Int → Int} {pl_differencesY : Int → Int} {pl_owners : Int → Int} {pl_kindCounts : Int → Int} {pl_threads : Int → Int} {pl_size : Int} {pl_seconds : UInt32} {pl_needleX : Int} {pl_needleY : Int} {pl_colour : Int} {p1 : Int} {Rt : Int} {R0 : Int} {R_sp_waiting : Int → Int} {R_sp_planned : Int} {R_F_fd_crossings : Int → Int → Int} {R_F_fd_crossingCount : Int → Int} {R_F_fd_drawn : Int → Int} {R_F_pt_xs : Int → Int → Int} {R_F_pt_ys : Int → Int → Int} {R_F_pt_size : Int → Int} {R_pl_kinds : Int → Int} {R_pl_differencesX : Int → Int} {R_pl_differencesY : Int → Int} {R_pl_owners : Int → Int} {R_pl_kindCounts : Int → Int} {R_pl_threads : Int → Int} {R_pl_size : Int} {R_pl_seconds : UInt32} {R_pl_needleX : Int} {R_pl_needleY : Int} {R_pl_colour : Int} (h_sp : σ0 0 = oC_sp ad sp_fieldCount sp_trimBound sp_planned) (h_sp_fields : σ0 1 = .inl (cF, 8, .inr (.inr (.inr (.inr (zFA ad nF)))))) (h_sp_waiting : σ0 2 = .inl (cZ, 8, .inl (zA sp_waiting))) (h_pl : σ0 3 = oC_pl ad pl_size pl_seconds pl_needleX pl_needleY pl_colour) (h_pl_kinds : σ0 4 = .inl (cI, 16641, .inl (zA pl_kinds))) (h_pl_differencesX : σ0 5 = .inl (cI, 16641, .inl (zA pl_differencesX))) (h_pl_differencesY : σ0 6 = .inl (cI, 16641, .inl (zA pl_differencesY))) (h_pl_owners : σ0 7 = .inl (cI, 16641, .inl (zA pl_owners))) (h_pl_kindCounts : σ0 8 = .inl (cI, 5, .inl (zA pl_kindCounts))) (h_pl_threads : σ0 9 = .inl (cI, 6, .inl (zA pl_threads))) (h_FF : zFF ad cI nF σ0 F_fd_colour F_fd_layer F_fd_column F_fd_cornerXs F_fd_cornerYs F_fd_crossings F_fd_cornerCount F_fd_crossingCount F_fd_density F_fd_length F_fd_shift F_fd_pull F_fd_underlay F_fd_drawn F_pt_xs F_pt_ys F_pt_size) (hf : f_X6_count sp_waiting sp_trimBound sp_planned F_fd_colour F_fd_layer F_fd_column F_fd_cornerXs F_fd_cornerYs F_fd_crossings F_fd_cornerCount F_fd_crossingCount F_fd_density F_fd_length F_fd_shift F_fd_pull F_fd_underlay F_fd_drawn F_pt_xs F_pt_ys F_pt_size pl_kinds pl_differencesX pl_differencesY pl_owners pl_kindCounts pl_threads pl_size pl_seconds pl_needleX pl_needleY pl_colour nF p1 = some (Rt, R0, R_sp_waiting, R_sp_planned, R_F_fd_crossings, R_F_fd_crossingCount, R_F_fd_drawn, R_F_pt_xs, R_F_pt_ys, R_F_pt_size, R_pl_kinds, R_pl_differencesX, R_pl_differencesY, R_pl_owners, R_pl_kindCounts, R_pl_threads, R_pl_size, R_pl_seconds, R_pl_needleX, R_pl_needleY, R_pl_colour)) :
    vx_Met l yX6_count (Cond.code yX6_count cX6_count 2 (some .int) :: wsL_law) rmX6_count (zPreX D ad N (zT cI cZ cF cL cD) σ0 sz [.ref (ad 0), .int (zI p1)]) (zQi D ad N sz (fun r σ' => Rt = 0 ∧ r = zI R0 ∧ σ' 0 = oC_sp ad sp_fieldCount sp_trimBound R_sp_planned ∧ σ' 2 = .inl (cZ, 8, .inl (zA R_sp_waiting)) ∧ σ' 3 = oC_pl ad R_pl_size R_pl_seconds R_pl_needleX R_pl_needleY R_pl_colour ∧ σ' 4 = .inl (cI, 16641, .inl (zA R_pl_kinds)) ∧ σ' 5 = .inl (cI, 16641, .inl (zA R_pl_differencesX)) ∧ σ' 6 = .inl (cI, 16641, .inl (zA R_pl_differencesY)) ∧ σ' 7 = .inl (cI, 16641, .inl (zA R_pl_owners)) ∧ σ' 8 = .inl (cI, 5, .inl (zA R_pl_kindCounts)) ∧ σ' 9 = .inl (cI, 6, .inl (zA R_pl_threads)) ∧ zFF ad cI nF σ' F_fd_colour F_fd_layer F_fd_column F_fd_cornerXs F_fd_cornerYs R_F_fd_crossings F_fd_cornerCount R_F_fd_crossingCount F_fd_density F_fd_length F_fd_shift F_fd_pull F_fd_underlay R_F_fd_drawn R_F_pt_xs R_F_pt_ys R_F_pt_size ∧ ∀ i : Nat, i < 19 → i ≠ 0 → i ≠ 2 → i ≠ 3 → i ≠ 4 → i ≠ 5 → i ≠ 6 → i ≠ 7 → i ≠ 8 → i ≠ 9 → σ' i = σ0 i)) (zXC D ad N sz Rt (fun σ' => σ' 0 = oC_sp ad sp_fieldCount sp_trimBound R_sp_planned ∧ σ' 2 = .inl (cZ, 8, .inl (zA R_sp_waiting)) ∧ σ' 3 = oC_pl ad R_pl_size R_pl_seconds R_pl_needleX R_pl_needleY R_pl_colour ∧ σ' 4 = .inl (cI, 16641, .inl (zA R_pl_kinds)) ∧ σ' 5 = .inl (cI, 16641, .inl (zA R_pl_differencesX)) ∧ σ' 6 = .inl (cI, 16641, .inl (zA R_pl_differencesY)) ∧ σ' 7 = .inl (cI, 16641, .inl (zA R_pl_owners)) ∧ σ' 8 = .inl (cI, 5, .inl (zA R_pl_kindCounts)) ∧ σ' 9 = .inl (cI, 6, .inl (zA R_pl_threads)) ∧ zFF ad cI nF σ' F_fd_colour F_fd_layer F_fd_column F_fd_cornerXs F_fd_cornerYs R_F_fd_crossings F_fd_cornerCount R_F_fd_crossingCount F_fd_density F_fd_length F_fd_shift F_fd_pull F_fd_underlay R_F_fd_drawn R_F_pt_xs R_F_pt_ys R_F_pt_size ∧ ∀ i : Nat, i < 19 → i ≠ 0 → i ≠ 2 → i ≠ 3 → i ≠ 4 → i ≠ 5 → i ≠ 6 → i ≠ 7 → i ≠ 8 → i ≠ 9 → σ' i = σ0 i)) 1 6 (zFr ad N sz) := by
  refine zMetX hI (by decide) (Nat.le_of_ble_eq_true rfl) ?_
  intro p e s m args below meth c Q hx hb hr hlocks hml hown hts hnh hK hX hsz hQ hH hA ls hl
  subst hsz
  have hk_sp : 0 < N := by omega
  have hk_sp_fields : 1 < N := by omega
  have hk_sp_waiting : 2 < N := by omega
  have hk_pl : 3 < N := by omega
  have hk_pl_kinds : 4 < N := by omega
  have hk_pl_differencesX : 5 < N := by omega
  have hk_pl_differencesY : 6 < N := by omega
  have hk_pl_owners : 7 < N := by omega
  have hk_pl_kindCounts : 8 < N := by omega
  have hk_pl_threads : 9 < N := by omega
  have hl : lv_has ls 2 [(0, .ref (ad 0)), (1, .int (zI p1))] := hl
  have hbg : ∀ i : Nat, i < 19 → i ≠ 0 → i ≠ 2 → i ≠ 3 → i ≠ 4 → i ≠ 5 → i ≠ 6 → i ≠ 7 → i ≠ 8 → i ≠ 9 → σ0 i = σ0 i := fun _ _ _ _ _ _ _ _ _ _ _ => rfl
  unfold f_X6_count at hf
  refine lv_iload_n hx hb dX6_count_0 rfl (lv_at hl 1 rfl) ?_
  refine lv_iconst (v := zI 0) hx hb dX6_count_1 (by decide +kernel) ?_
  refine lv_iconst (v := zI 4) hx hb dX6_count_2 (by decide +kernel) ?_
  obtain ⟨r1, k2, hf⟩ := zb1_some hf
  refine zcSi (As := [.int (zI p1), .int (zI 0), .int (zI 4)]) (rest := []) hx hb hml hown hts hl.1 hK hH hA (c_X6_isWithin hI hN   k2) zk_t2_87 zk_t2_88 zk_t1_1 zk_t2_89 hd_X6_isWithin rfl ⟨rfl, rfl, Nat.le_of_ble_eq_true rfl, Nat.le_of_ble_eq_true rfl⟩ ⟨by decide, by decide⟩ rfl (Nat.le_of_ble_eq_true rfl) dX6_count_3 (fun q4 σ3 Hσ3 lσ3 hp hH => ?_)
  obtain ⟨hr1, hs1⟩ := hp; subst hr1; rw [hs1] at hH
  obtain ⟨k5, hf⟩ := zck_some hf
  refine lz_if_ne (tgt := 19) hx hb k5 dX6_count_6 (by decide) (fun c6 => ?_) (fun c6 => ?_)
  · replace hf := (if_neg c6).symm.trans hf
    refine lv_aload_n hx hb dX6_count_19 rfl (lv_at hl 0 rfl) ?_
    obtain ⟨a7, u8, u9, u10, u11, u12, u13, u14, a15, a16, a17, a18, a19, a20, u21, u22, u23, u24, u25, k26, hf⟩ := zb19_some hf
    refine zcVv (C := RX6) (As := []) (rest := []) hx hb hml hown hts hl.1 hK hH hA (c_X6_refresh hI hN hNF  h_sp h_sp_fields h_sp_waiting h_pl h_pl_kinds h_pl_differencesX h_pl_differencesY h_pl_owners h_pl_kindCounts h_pl_threads h_FF k26) zk_t1_193 zk_t1_195 zk_s1_0 zk_t1_1 zk_t1_196 hd_X6_refresh rfl ⟨rfl, rfl, Nat.le_of_ble_eq_true rfl, Nat.le_of_ble_eq_true rfl⟩ ⟨by decide, by decide⟩ hk_sp h_sp rfl rfl rfl (Nat.le_of_ble_eq_true rfl) dX6_count_20 (fun σ27 Hσ27 lσ27 hp hH => ?_)
    obtain ⟨h_sp, h_sp_waiting, h_pl, h_pl_kinds, h_pl_differencesX, h_pl_differencesY, h_pl_owners, h_pl_kindCounts, h_pl_threads, h_FF, hn⟩ := hp
    have h_sp_fields := (hn 1 (by decide) (by decide) (by decide) (by decide) (by decide) (by decide) (by decide) (by decide) (by decide) (by decide)).trans h_sp_fields
    have hbg : ∀ i : Nat, i < 19 → i ≠ 0 → i ≠ 2 → i ≠ 3 → i ≠ 4 → i ≠ 5 → i ≠ 6 → i ≠ 7 → i ≠ 8 → i ≠ 9 → σ27 i = σ0 i := fun i h46 a0 a1 a2 a3 a4 a5 a6 a7 a8 => (hn i h46 a0 a1 a2 a3 a4 a5 a6 a7 a8).trans (hbg i h46 a0 a1 a2 a3 a4 a5 a6 a7 a8)
    refine lv_aload_n hx hb dX6_count_23 rfl (lv_at hl 0 rfl) ?_
    refine zget hx hb inlX6 rfl 2 rfl zk_t1_151 hts hown hK hH hk_sp h_sp rfl dX6_count_24 ?_
    refine zget hx hb inlX3 rfl 4 rfl zk_t1_36 hts hown hK hH hk_pl h_pl rfl dX6_count_27 ?_
    refine lv_iload_n hx hb dX6_count_30 rfl (lv_at hl 1 rfl) ?_
    obtain ⟨k28, hf⟩ := zck_some hf
    refine ziald hx hb hK hH hk_pl_kindCounts 0 h_pl_kindCounts rfl k28 rfl dX6_count_31 ?_
    cases hf
    exact zxreti hx hb hr hlocks hQ hH ⟨rfl, rfl, h_sp, h_sp_waiting, h_pl, h_pl_kinds, h_pl_differencesX, h_pl_differencesY, h_pl_owners, h_pl_kindCounts, h_pl_threads, h_FF, hbg⟩ ⟨by decide, by decide⟩ dX6_count_32
  · replace hf := (if_pos c6).symm.trans hf
    cases hf
    exact zthr_a hx hb hst hQ hnh hlocks hown hts zk_t2_158 zk_t1_11 hX (is := 141) (text := "a kind is STITCH to END") (by decide +kernel) (hl.1.trans hml.symm) hH ⟨h_sp, h_sp_waiting, h_pl, h_pl_kinds, h_pl_differencesX, h_pl_differencesY, h_pl_owners, h_pl_kindCounts, h_pl_threads, h_FF, hbg⟩ ⟨by decide, by decide, by decide, by decide⟩ ⟨by decide, by decide⟩ dX6_count_9 dX6_count_12 dX6_count_13 dX6_count_15 dX6_count_18
abbrev rmX6_time : Room := { frames := 7, cells := 0, slots := 0, locals := 167 }
theorem hd_X6_time : yX6_time.cls = RX6 ∧ yX6_time.cls ≠ "java/lang/invoke/MethodHandle" ∧ yX6_time.cls ≠ "java/lang/invoke/VarHandle" ∧ (parseMethodDescriptor yX6_time.desc).map (fun d => d.parameters.length) = some 0 := by decide +kernel
set_option maxHeartbeats 4000000 in
set_option maxRecDepth 100000 in
theorem c_X6_time {l : Launch} {D : va_G} {cI cZ cF cL cD : ClassId} {ad : Nat → Nat} {N : Nat} (hI : ∀ i j, i < N → j < N → ad i = ad j → i = j) (hN : 19 ≤ N) {nF : Int} (hNF : N = 19 + 7 * nF.toNat) {σ0 : Nat → va_E} {sz : Nat} {sp_waiting : Int → Int} {sp_fieldCount : Int} {sp_trimBound : Int} {sp_planned : Int} {F_fd_colour : Int → Int} {F_fd_layer : Int → Int} {F_fd_column : Int → Int} {F_fd_cornerXs : Int → Int → Int} {F_fd_cornerYs : Int → Int → Int} {F_fd_crossings : Int → Int → Int} {F_fd_cornerCount : Int → Int} {F_fd_crossingCount : Int → Int} {F_fd_density : Int → Int} {F_fd_length : Int → Int} {F_fd_shift : Int → Int} {F_fd_pull : Int → Int} {F_fd_underlay : Int → Int} {F_fd_drawn : Int → Int} {F_pt_xs : Int → Int → Int} {F_pt_ys : Int → Int → Int} {F_pt_size : Int → Int} {pl_kinds : Int → Int} {pl_differencesX : Int → Int} {pl_differencesY : Int → Int} {pl_owners : Int → Int} {pl_kindCounts : Int → Int} {pl_threads : Int → Int} {pl_size : Int} {pl_seconds : UInt32} {pl_needleX : Int} {pl_needleY : Int} {pl_colour : Int} {R0 : UInt32} {R_sp_waiting : Int → Int} {R_sp_planned : Int} {R_F_fd_crossings : Int → Int → Int} {R_F_fd_crossingCount : Int → Int} {R_F_fd_drawn : Int → Int} {R_F_pt_xs : Int → Int → Int} {R_F_pt_ys : Int → Int → Int} {R_F_pt_size : Int → Int} {R_pl_kinds : Int → Int} {R_pl_differencesX : Int → Int} {R_pl_differencesY : Int → Int} {R_pl_owners : Int → Int} {R_pl_kindCounts : Int → Int} {R_pl_threads : Int → Int} {R_pl_size : Int} {R_pl_seconds : UInt32} {R_pl_needleX : Int} {R_pl_needleY : Int} {R_pl_colour : Int} (h_sp : σ0 0 = oC_sp ad sp_fieldCount sp_trimBound sp_planned) (h_sp_fields : σ0 1 = .inl (cF, 8, .inr (.inr (.inr (.inr (zFA ad nF)))))) (h_sp_waiting : σ0 2 = .inl (cZ, 8, .inl (zA sp_waiting))) (h_pl : σ0 3 = oC_pl ad pl_size pl_seconds pl_needleX pl_needleY pl_colour) (h_pl_kinds : σ0 4 = .inl (cI, 16641, .inl (zA pl_kinds))) (h_pl_differencesX : σ0 5 = .inl (cI, 16641, .inl (zA pl_differencesX))) (h_pl_differencesY : σ0 6 = .inl (cI, 16641, .inl (zA pl_differencesY))) (h_pl_owners : σ0 7 = .inl (cI, 16641, .inl (zA pl_owners))) (h_pl_kindCounts : σ0 8 = .inl (cI, 5, .inl (zA pl_kindCounts))) (h_pl_threads : σ0 9 = .inl (cI, 6, .inl (zA pl_threads))) (h_FF : zFF ad cI nF σ0 F_fd_colour F_fd_layer F_fd_column F_fd_cornerXs F_fd_cornerYs F_fd_crossings F_fd_cornerCount F_fd_crossingCount F_fd_density F_fd_length F_fd_shift F_fd_pull F_fd_underlay F_fd_drawn F_pt_xs F_pt_ys F_pt_size) (hf : f_X6_time sp_waiting sp_trimBound sp_planned F_fd_colour F_fd_layer F_fd_column F_fd_cornerXs F_fd_cornerYs F_fd_crossings F_fd_cornerCount F_fd_crossingCount F_fd_density F_fd_length F_fd_shift F_fd_pull F_fd_underlay F_fd_drawn F_pt_xs F_pt_ys F_pt_size pl_kinds pl_differencesX pl_differencesY pl_owners pl_kindCounts pl_threads pl_size pl_seconds pl_needleX pl_needleY pl_colour nF = some (R0, R_sp_waiting, R_sp_planned, R_F_fd_crossings, R_F_fd_crossingCount, R_F_fd_drawn, R_F_pt_xs, R_F_pt_ys, R_F_pt_size, R_pl_kinds, R_pl_differencesX, R_pl_differencesY, R_pl_owners, R_pl_kindCounts, R_pl_threads, R_pl_size, R_pl_seconds, R_pl_needleX, R_pl_needleY, R_pl_colour)) :
    Met l yX6_time (Cond.code yX6_time cX6_time 1 (some .float) :: wsL_law) rmX6_time (zPre D ad N (zT cI cZ cF cL cD) σ0 sz [.ref (ad 0)]) (zQf D ad N sz (fun r σ' => r = R0 ∧ σ' 0 = oC_sp ad sp_fieldCount sp_trimBound R_sp_planned ∧ σ' 2 = .inl (cZ, 8, .inl (zA R_sp_waiting)) ∧ σ' 3 = oC_pl ad R_pl_size R_pl_seconds R_pl_needleX R_pl_needleY R_pl_colour ∧ σ' 4 = .inl (cI, 16641, .inl (zA R_pl_kinds)) ∧ σ' 5 = .inl (cI, 16641, .inl (zA R_pl_differencesX)) ∧ σ' 6 = .inl (cI, 16641, .inl (zA R_pl_differencesY)) ∧ σ' 7 = .inl (cI, 16641, .inl (zA R_pl_owners)) ∧ σ' 8 = .inl (cI, 5, .inl (zA R_pl_kindCounts)) ∧ σ' 9 = .inl (cI, 6, .inl (zA R_pl_threads)) ∧ zFF ad cI nF σ' F_fd_colour F_fd_layer F_fd_column F_fd_cornerXs F_fd_cornerYs R_F_fd_crossings F_fd_cornerCount R_F_fd_crossingCount F_fd_density F_fd_length F_fd_shift F_fd_pull F_fd_underlay R_F_fd_drawn R_F_pt_xs R_F_pt_ys R_F_pt_size ∧ ∀ i : Nat, i < 19 → i ≠ 0 → i ≠ 2 → i ≠ 3 → i ≠ 4 → i ≠ 5 → i ≠ 6 → i ≠ 7 → i ≠ 8 → i ≠ 9 → σ' i = σ0 i)) 0 0 (zFr ad N sz) := by
  refine zMet hI (plainFor_of_name (by decide)) (Nat.le_of_ble_eq_true rfl) ⟨rfl, rfl⟩ ?_
  intro p e s m args below meth c Q hx hb hr hlocks hml hown hts hK hsz hQ hH hA ls hl
  subst hsz
  have hk_sp : 0 < N := by omega
  have hk_sp_fields : 1 < N := by omega
  have hk_sp_waiting : 2 < N := by omega
  have hk_pl : 3 < N := by omega
  have hk_pl_kinds : 4 < N := by omega
  have hk_pl_differencesX : 5 < N := by omega
  have hk_pl_differencesY : 6 < N := by omega
  have hk_pl_owners : 7 < N := by omega
  have hk_pl_kindCounts : 8 < N := by omega
  have hk_pl_threads : 9 < N := by omega
  have hl : lv_has ls 1 [(0, .ref (ad 0))] := hl
  have hbg : ∀ i : Nat, i < 19 → i ≠ 0 → i ≠ 2 → i ≠ 3 → i ≠ 4 → i ≠ 5 → i ≠ 6 → i ≠ 7 → i ≠ 8 → i ≠ 9 → σ0 i = σ0 i := fun _ _ _ _ _ _ _ _ _ _ _ => rfl
  unfold f_X6_time at hf
  refine lv_aload_n hx hb dX6_time_0 rfl (lv_at hl 0 rfl) ?_
  obtain ⟨a1, u2, u3, u4, u5, u6, u7, u8, a9, a10, a11, a12, a13, a14, u15, u16, u17, u18, u19, k20, hf⟩ := zb19_some hf
  refine zcVv (C := RX6) (As := []) (rest := []) hx hb hml hown hts hl.1 hK hH hA (c_X6_refresh hI hN hNF  h_sp h_sp_fields h_sp_waiting h_pl h_pl_kinds h_pl_differencesX h_pl_differencesY h_pl_owners h_pl_kindCounts h_pl_threads h_FF k20) zk_t1_193 zk_t1_195 zk_s1_0 zk_t1_1 zk_t1_196 hd_X6_refresh rfl ⟨rfl, rfl, Nat.le_of_ble_eq_true rfl, Nat.le_of_ble_eq_true rfl⟩ ⟨Nat.zero_le _, Nat.zero_le _⟩ hk_sp h_sp rfl rfl rfl (Nat.le_of_ble_eq_true rfl) dX6_time_1 (fun σ21 Hσ21 lσ21 hp hH => ?_)
  obtain ⟨h_sp, h_sp_waiting, h_pl, h_pl_kinds, h_pl_differencesX, h_pl_differencesY, h_pl_owners, h_pl_kindCounts, h_pl_threads, h_FF, hn⟩ := hp
  have h_sp_fields := (hn 1 (by decide) (by decide) (by decide) (by decide) (by decide) (by decide) (by decide) (by decide) (by decide) (by decide)).trans h_sp_fields
  have hbg : ∀ i : Nat, i < 19 → i ≠ 0 → i ≠ 2 → i ≠ 3 → i ≠ 4 → i ≠ 5 → i ≠ 6 → i ≠ 7 → i ≠ 8 → i ≠ 9 → σ21 i = σ0 i := fun i h46 a0 a1 a2 a3 a4 a5 a6 a7 a8 => (hn i h46 a0 a1 a2 a3 a4 a5 a6 a7 a8).trans (hbg i h46 a0 a1 a2 a3 a4 a5 a6 a7 a8)
  refine lv_aload_n hx hb dX6_time_4 rfl (lv_at hl 0 rfl) ?_
  refine zget hx hb inlX6 rfl 2 rfl zk_t1_151 hts hown hK hH hk_sp h_sp rfl dX6_time_5 ?_
  refine zget hx hb inlX3 rfl 7 rfl zk_t1_44 hts hown hK hH hk_pl h_pl rfl dX6_time_8 ?_
  cases hf
  exact zretf hx hb hr hlocks hQ hH ⟨rfl, h_sp, h_sp_waiting, h_pl, h_pl_kinds, h_pl_differencesX, h_pl_differencesY, h_pl_owners, h_pl_kindCounts, h_pl_threads, h_FF, hbg⟩ dX6_time_11
abbrev rmX6_thread : Room := { frames := 7, cells := 1, slots := 6, locals := 167 }
theorem hd_X6_thread : yX6_thread.cls = RX6 ∧ yX6_thread.cls ≠ "java/lang/invoke/MethodHandle" ∧ yX6_thread.cls ≠ "java/lang/invoke/VarHandle" ∧ (parseMethodDescriptor yX6_thread.desc).map (fun d => d.parameters.length) = some 1 := by decide +kernel
set_option maxHeartbeats 4000000 in
set_option maxRecDepth 100000 in
theorem c_X6_thread {l : Launch} {D : va_G} {cI cZ cF cL cD : ClassId} {ad : Nat → Nat} {N : Nat} (hI : ∀ i j, i < N → j < N → ad i = ad j → i = j) (hN : 19 ≤ N) {nF : Int} (hNF : N = 19 + 7 * nF.toNat) (hst : l.stackTraces = false) {σ0 : Nat → va_E} {sz : Nat} {sp_waiting : Int → Int} {sp_fieldCount : Int} {sp_trimBound : Int} {sp_planned : Int} {F_fd_colour : Int → Int} {F_fd_layer : Int → Int} {F_fd_column : Int → Int} {F_fd_cornerXs : Int → Int → Int} {F_fd_cornerYs : Int → Int → Int} {F_fd_crossings : Int → Int → Int} {F_fd_cornerCount : Int → Int} {F_fd_crossingCount : Int → Int} {F_fd_density : Int → Int} {F_fd_length : Int → Int} {F_fd_shift : Int → Int} {F_fd_pull : Int → Int} {F_fd_underlay : Int → Int} {F_fd_drawn : Int → Int} {F_pt_xs : Int → Int → Int} {F_pt_ys : Int → Int → Int} {F_pt_size : Int → Int} {pl_kinds : Int → Int} {pl_differencesX : Int → Int} {pl_differencesY : Int → Int} {pl_owners : Int → Int} {pl_kindCounts : Int → Int} {pl_threads : Int → Int} {pl_size : Int} {pl_seconds : UInt32} {pl_needleX : Int} {pl_needleY : Int} {pl_colour : Int} {p1 : Int} {Rt : Int} {R0 : Int} {R_sp_waiting : Int → Int} {R_sp_planned : Int} {R_F_fd_crossings : Int → Int → Int} {R_F_fd_crossingCount : Int → Int} {R_F_fd_drawn : Int → Int} {R_F_pt_xs : Int → Int → Int} {R_F_pt_ys : Int → Int → Int} {R_F_pt_size : Int → Int} {R_pl_kinds : Int → Int} {R_pl_differencesX : Int → Int} {R_pl_differencesY : Int → Int} {R_pl_owners : Int → Int} {R_pl_kindCounts : Int → Int} {R_pl_threads : Int → Int} {R_pl_size : Int} {R_pl_seconds : UInt32} {R_pl_needleX : Int} {R_pl_needleY : Int} {R_pl_colour : Int} (h_sp : σ0 0 = oC_sp ad sp_fieldCount sp_trimBound sp_planned) (h_sp_fields : σ0 1 = .inl (cF, 8, .inr (.inr (.inr (.inr (zFA ad nF)))))) (h_sp_waiting : σ0 2 = .inl (cZ, 8, .inl (zA sp_waiting))) (h_pl : σ0 3 = oC_pl ad pl_size pl_seconds pl_needleX pl_needleY pl_colour) (h_pl_kinds : σ0 4 = .inl (cI, 16641, .inl (zA pl_kinds))) (h_pl_differencesX : σ0 5 = .inl (cI, 16641, .inl (zA pl_differencesX))) (h_pl_differencesY : σ0 6 = .inl (cI, 16641, .inl (zA pl_differencesY))) (h_pl_owners : σ0 7 = .inl (cI, 16641, .inl (zA pl_owners))) (h_pl_kindCounts : σ0 8 = .inl (cI, 5, .inl (zA pl_kindCounts))) (h_pl_threads : σ0 9 = .inl (cI, 6, .inl (zA pl_threads))) (h_FF : zFF ad cI nF σ0 F_fd_colour F_fd_layer F_fd_column F_fd_cornerXs F_fd_cornerYs F_fd_crossings F_fd_cornerCount F_fd_crossingCount F_fd_density F_fd_length F_fd_shift F_fd_pull F_fd_underlay F_fd_drawn F_pt_xs F_pt_ys F_pt_size) (hf : f_X6_thread sp_waiting sp_trimBound sp_planned F_fd_colour F_fd_layer F_fd_column F_fd_cornerXs F_fd_cornerYs F_fd_crossings F_fd_cornerCount F_fd_crossingCount F_fd_density F_fd_length F_fd_shift F_fd_pull F_fd_underlay F_fd_drawn F_pt_xs F_pt_ys F_pt_size pl_kinds pl_differencesX pl_differencesY pl_owners pl_kindCounts pl_threads pl_size pl_seconds pl_needleX pl_needleY pl_colour nF p1 = some (Rt, R0, R_sp_waiting, R_sp_planned, R_F_fd_crossings, R_F_fd_crossingCount, R_F_fd_drawn, R_F_pt_xs, R_F_pt_ys, R_F_pt_size, R_pl_kinds, R_pl_differencesX, R_pl_differencesY, R_pl_owners, R_pl_kindCounts, R_pl_threads, R_pl_size, R_pl_seconds, R_pl_needleX, R_pl_needleY, R_pl_colour)) :
    vx_Met l yX6_thread (Cond.code yX6_thread cX6_thread 2 (some .int) :: wsL_law) rmX6_thread (zPreX D ad N (zT cI cZ cF cL cD) σ0 sz [.ref (ad 0), .int (zI p1)]) (zQi D ad N sz (fun r σ' => Rt = 0 ∧ r = zI R0 ∧ σ' 0 = oC_sp ad sp_fieldCount sp_trimBound R_sp_planned ∧ σ' 2 = .inl (cZ, 8, .inl (zA R_sp_waiting)) ∧ σ' 3 = oC_pl ad R_pl_size R_pl_seconds R_pl_needleX R_pl_needleY R_pl_colour ∧ σ' 4 = .inl (cI, 16641, .inl (zA R_pl_kinds)) ∧ σ' 5 = .inl (cI, 16641, .inl (zA R_pl_differencesX)) ∧ σ' 6 = .inl (cI, 16641, .inl (zA R_pl_differencesY)) ∧ σ' 7 = .inl (cI, 16641, .inl (zA R_pl_owners)) ∧ σ' 8 = .inl (cI, 5, .inl (zA R_pl_kindCounts)) ∧ σ' 9 = .inl (cI, 6, .inl (zA R_pl_threads)) ∧ zFF ad cI nF σ' F_fd_colour F_fd_layer F_fd_column F_fd_cornerXs F_fd_cornerYs R_F_fd_crossings F_fd_cornerCount R_F_fd_crossingCount F_fd_density F_fd_length F_fd_shift F_fd_pull F_fd_underlay R_F_fd_drawn R_F_pt_xs R_F_pt_ys R_F_pt_size ∧ ∀ i : Nat, i < 19 → i ≠ 0 → i ≠ 2 → i ≠ 3 → i ≠ 4 → i ≠ 5 → i ≠ 6 → i ≠ 7 → i ≠ 8 → i ≠ 9 → σ' i = σ0 i)) (zXC D ad N sz Rt (fun σ' => σ' 0 = oC_sp ad sp_fieldCount sp_trimBound R_sp_planned ∧ σ' 2 = .inl (cZ, 8, .inl (zA R_sp_waiting)) ∧ σ' 3 = oC_pl ad R_pl_size R_pl_seconds R_pl_needleX R_pl_needleY R_pl_colour ∧ σ' 4 = .inl (cI, 16641, .inl (zA R_pl_kinds)) ∧ σ' 5 = .inl (cI, 16641, .inl (zA R_pl_differencesX)) ∧ σ' 6 = .inl (cI, 16641, .inl (zA R_pl_differencesY)) ∧ σ' 7 = .inl (cI, 16641, .inl (zA R_pl_owners)) ∧ σ' 8 = .inl (cI, 5, .inl (zA R_pl_kindCounts)) ∧ σ' 9 = .inl (cI, 6, .inl (zA R_pl_threads)) ∧ zFF ad cI nF σ' F_fd_colour F_fd_layer F_fd_column F_fd_cornerXs F_fd_cornerYs R_F_fd_crossings F_fd_cornerCount R_F_fd_crossingCount F_fd_density F_fd_length F_fd_shift F_fd_pull F_fd_underlay R_F_fd_drawn R_F_pt_xs R_F_pt_ys R_F_pt_size ∧ ∀ i : Nat, i < 19 → i ≠ 0 → i ≠ 2 → i ≠ 3 → i ≠ 4 → i ≠ 5 → i ≠ 6 → i ≠ 7 → i ≠ 8 → i ≠ 9 → σ' i = σ0 i)) 1 6 (zFr ad N sz) := by
  refine zMetX hI (by decide) (Nat.le_of_ble_eq_true rfl) ?_
  intro p e s m args below meth c Q hx hb hr hlocks hml hown hts hnh hK hX hsz hQ hH hA ls hl
  subst hsz
  have hk_sp : 0 < N := by omega
  have hk_sp_fields : 1 < N := by omega
  have hk_sp_waiting : 2 < N := by omega
  have hk_pl : 3 < N := by omega
  have hk_pl_kinds : 4 < N := by omega
  have hk_pl_differencesX : 5 < N := by omega
  have hk_pl_differencesY : 6 < N := by omega
  have hk_pl_owners : 7 < N := by omega
  have hk_pl_kindCounts : 8 < N := by omega
  have hk_pl_threads : 9 < N := by omega
  have hl : lv_has ls 2 [(0, .ref (ad 0)), (1, .int (zI p1))] := hl
  have hbg : ∀ i : Nat, i < 19 → i ≠ 0 → i ≠ 2 → i ≠ 3 → i ≠ 4 → i ≠ 5 → i ≠ 6 → i ≠ 7 → i ≠ 8 → i ≠ 9 → σ0 i = σ0 i := fun _ _ _ _ _ _ _ _ _ _ _ => rfl
  unfold f_X6_thread at hf
  refine lv_iload_n hx hb dX6_thread_0 rfl (lv_at hl 1 rfl) ?_
  refine lv_iconst (v := zI 0) hx hb dX6_thread_1 (by decide +kernel) ?_
  refine lv_iconst (v := zI 5) hx hb dX6_thread_2 (by decide +kernel) ?_
  obtain ⟨r1, k2, hf⟩ := zb1_some hf
  refine zcSi (As := [.int (zI p1), .int (zI 0), .int (zI 5)]) (rest := []) hx hb hml hown hts hl.1 hK hH hA (c_X6_isWithin hI hN   k2) zk_t2_87 zk_t2_88 zk_t1_1 zk_t2_89 hd_X6_isWithin rfl ⟨rfl, rfl, Nat.le_of_ble_eq_true rfl, Nat.le_of_ble_eq_true rfl⟩ ⟨by decide, by decide⟩ rfl (Nat.le_of_ble_eq_true rfl) dX6_thread_3 (fun q4 σ3 Hσ3 lσ3 hp hH => ?_)
  obtain ⟨hr1, hs1⟩ := hp; subst hr1; rw [hs1] at hH
  obtain ⟨k5, hf⟩ := zck_some hf
  refine lz_if_ne (tgt := 19) hx hb k5 dX6_thread_6 (by decide) (fun c6 => ?_) (fun c6 => ?_)
  · replace hf := (if_neg c6).symm.trans hf
    refine lv_aload_n hx hb dX6_thread_19 rfl (lv_at hl 0 rfl) ?_
    obtain ⟨a7, u8, u9, u10, u11, u12, u13, u14, a15, a16, a17, a18, a19, a20, u21, u22, u23, u24, u25, k26, hf⟩ := zb19_some hf
    refine zcVv (C := RX6) (As := []) (rest := []) hx hb hml hown hts hl.1 hK hH hA (c_X6_refresh hI hN hNF  h_sp h_sp_fields h_sp_waiting h_pl h_pl_kinds h_pl_differencesX h_pl_differencesY h_pl_owners h_pl_kindCounts h_pl_threads h_FF k26) zk_t1_193 zk_t1_195 zk_s1_0 zk_t1_1 zk_t1_196 hd_X6_refresh rfl ⟨rfl, rfl, Nat.le_of_ble_eq_true rfl, Nat.le_of_ble_eq_true rfl⟩ ⟨by decide, by decide⟩ hk_sp h_sp rfl rfl rfl (Nat.le_of_ble_eq_true rfl) dX6_thread_20 (fun σ27 Hσ27 lσ27 hp hH => ?_)
    obtain ⟨h_sp, h_sp_waiting, h_pl, h_pl_kinds, h_pl_differencesX, h_pl_differencesY, h_pl_owners, h_pl_kindCounts, h_pl_threads, h_FF, hn⟩ := hp
    have h_sp_fields := (hn 1 (by decide) (by decide) (by decide) (by decide) (by decide) (by decide) (by decide) (by decide) (by decide) (by decide)).trans h_sp_fields
    have hbg : ∀ i : Nat, i < 19 → i ≠ 0 → i ≠ 2 → i ≠ 3 → i ≠ 4 → i ≠ 5 → i ≠ 6 → i ≠ 7 → i ≠ 8 → i ≠ 9 → σ27 i = σ0 i := fun i h46 a0 a1 a2 a3 a4 a5 a6 a7 a8 => (hn i h46 a0 a1 a2 a3 a4 a5 a6 a7 a8).trans (hbg i h46 a0 a1 a2 a3 a4 a5 a6 a7 a8)
    refine lv_aload_n hx hb dX6_thread_23 rfl (lv_at hl 0 rfl) ?_
    refine zget hx hb inlX6 rfl 2 rfl zk_t1_151 hts hown hK hH hk_sp h_sp rfl dX6_thread_24 ?_
    refine zget hx hb inlX3 rfl 5 rfl zk_t1_38 hts hown hK hH hk_pl h_pl rfl dX6_thread_27 ?_
    refine lv_iload_n hx hb dX6_thread_30 rfl (lv_at hl 1 rfl) ?_
    obtain ⟨k28, hf⟩ := zck_some hf
    refine ziald hx hb hK hH hk_pl_threads 0 h_pl_threads rfl k28 rfl dX6_thread_31 ?_
    cases hf
    exact zxreti hx hb hr hlocks hQ hH ⟨rfl, rfl, h_sp, h_sp_waiting, h_pl, h_pl_kinds, h_pl_differencesX, h_pl_differencesY, h_pl_owners, h_pl_kindCounts, h_pl_threads, h_FF, hbg⟩ ⟨by decide, by decide⟩ dX6_thread_32
  · replace hf := (if_pos c6).symm.trans hf
    cases hf
    exact zthr_a hx hb hst hQ hnh hlocks hown hts zk_t2_158 zk_t1_11 hX (is := 57) (text := "a colour is 0 to 5") (by decide +kernel) (hl.1.trans hml.symm) hH ⟨h_sp, h_sp_waiting, h_pl, h_pl_kinds, h_pl_differencesX, h_pl_differencesY, h_pl_owners, h_pl_kindCounts, h_pl_threads, h_FF, hbg⟩ ⟨by decide, by decide, by decide, by decide⟩ ⟨by decide, by decide⟩ dX6_thread_9 dX6_thread_12 dX6_thread_13 dX6_thread_15 dX6_thread_18
abbrev rmX6_covered : Room := { frames := 7, cells := 1, slots := 6, locals := 114 }
theorem hd_X6_covered : yX6_covered.cls = RX6 ∧ yX6_covered.cls ≠ "java/lang/invoke/MethodHandle" ∧ yX6_covered.cls ≠ "java/lang/invoke/VarHandle" ∧ (parseMethodDescriptor yX6_covered.desc).map (fun d => d.parameters.length) = some 1 := by decide +kernel
set_option maxHeartbeats 4000000 in
set_option maxRecDepth 100000 in
theorem c_X6_covered {l : Launch} {D : va_G} {cI cZ cF cL cD : ClassId} {ad : Nat → Nat} {N : Nat} (hI : ∀ i j, i < N → j < N → ad i = ad j → i = j) (hN : 19 ≤ N) {nF : Int} (hNF : N = 19 + 7 * nF.toNat) (hst : l.stackTraces = false) {σ0 : Nat → va_E} {sz : Nat} {sp_fieldCount : Int} {sp_trimBound : Int} {sp_planned : Int} {F_fd_colour : Int → Int} {F_fd_layer : Int → Int} {F_fd_column : Int → Int} {F_fd_cornerXs : Int → Int → Int} {F_fd_cornerYs : Int → Int → Int} {F_fd_crossings : Int → Int → Int} {F_fd_cornerCount : Int → Int} {F_fd_crossingCount : Int → Int} {F_fd_density : Int → Int} {F_fd_length : Int → Int} {F_fd_shift : Int → Int} {F_fd_pull : Int → Int} {F_fd_underlay : Int → Int} {F_fd_drawn : Int → Int} {F_pt_xs : Int → Int → Int} {F_pt_ys : Int → Int → Int} {F_pt_size : Int → Int} {ra_cells : Int → Int} {ra_cellCount : Int} {p1 : Int} {Rt : Int} {R0 : UInt32} {R_F_fd_crossings : Int → Int → Int} {R_F_fd_crossingCount : Int → Int} {R_F_fd_drawn : Int → Int} {R_F_pt_xs : Int → Int → Int} {R_F_pt_ys : Int → Int → Int} {R_F_pt_size : Int → Int} {R_ra_cells : Int → Int} {R_ra_cellCount : Int} (h_sp : σ0 0 = oC_sp ad sp_fieldCount sp_trimBound sp_planned) (h_sp_fields : σ0 1 = .inl (cF, 8, .inr (.inr (.inr (.inr (zFA ad nF)))))) (h_ra : σ0 10 = oC_ra ad ra_cellCount) (h_ra_cells : σ0 11 = .inl (cZ, 1024, .inl (zA ra_cells))) (h_FF : zFF ad cI nF σ0 F_fd_colour F_fd_layer F_fd_column F_fd_cornerXs F_fd_cornerYs F_fd_crossings F_fd_cornerCount F_fd_crossingCount F_fd_density F_fd_length F_fd_shift F_fd_pull F_fd_underlay F_fd_drawn F_pt_xs F_pt_ys F_pt_size) (hf : f_X6_covered sp_fieldCount F_fd_column F_fd_cornerXs F_fd_cornerYs F_fd_crossings F_fd_cornerCount F_fd_crossingCount F_fd_density F_fd_length F_fd_shift F_fd_pull F_fd_underlay F_fd_drawn F_pt_xs F_pt_ys F_pt_size ra_cells ra_cellCount nF p1 = some (Rt, R0, R_F_fd_crossings, R_F_fd_crossingCount, R_F_fd_drawn, R_F_pt_xs, R_F_pt_ys, R_F_pt_size, R_ra_cells, R_ra_cellCount)) :
    vx_Met l yX6_covered (Cond.code yX6_covered cX6_covered 3 (some .float) :: wsL_law) rmX6_covered (zPreX D ad N (zT cI cZ cF cL cD) σ0 sz [.ref (ad 0), .int (zI p1)]) (zQf D ad N sz (fun r σ' => Rt = 0 ∧ r = R0 ∧ σ' 10 = oC_ra ad R_ra_cellCount ∧ σ' 11 = .inl (cZ, 1024, .inl (zA R_ra_cells)) ∧ zFF ad cI nF σ' F_fd_colour F_fd_layer F_fd_column F_fd_cornerXs F_fd_cornerYs R_F_fd_crossings F_fd_cornerCount R_F_fd_crossingCount F_fd_density F_fd_length F_fd_shift F_fd_pull F_fd_underlay R_F_fd_drawn R_F_pt_xs R_F_pt_ys R_F_pt_size ∧ ∀ i : Nat, i < 19 → i ≠ 10 → i ≠ 11 → σ' i = σ0 i)) (zXC D ad N sz Rt (fun σ' => σ' 10 = oC_ra ad R_ra_cellCount ∧ σ' 11 = .inl (cZ, 1024, .inl (zA R_ra_cells)) ∧ zFF ad cI nF σ' F_fd_colour F_fd_layer F_fd_column F_fd_cornerXs F_fd_cornerYs R_F_fd_crossings F_fd_cornerCount R_F_fd_crossingCount F_fd_density F_fd_length F_fd_shift F_fd_pull F_fd_underlay R_F_fd_drawn R_F_pt_xs R_F_pt_ys R_F_pt_size ∧ ∀ i : Nat, i < 19 → i ≠ 10 → i ≠ 11 → σ' i = σ0 i)) 1 6 (zFr ad N sz) := by
  refine zMetX hI (by decide) (Nat.le_of_ble_eq_true rfl) ?_
  intro p e s m args below meth c Q hx hb hr hlocks hml hown hts hnh hK hX hsz hQ hH hA ls hl
  subst hsz
  have hk_sp : 0 < N := by omega
  have hk_sp_fields : 1 < N := by omega
  have hk_ra : 10 < N := by omega
  have hk_ra_cells : 11 < N := by omega
  have hl : lv_has ls 3 [(0, .ref (ad 0)), (1, .int (zI p1))] := hl
  have hbg : ∀ i : Nat, i < 19 → i ≠ 10 → i ≠ 11 → σ0 i = σ0 i := fun _ _ _ _ => rfl
  unfold f_X6_covered at hf
  refine lv_aload_n hx hb dX6_covered_0 rfl (lv_at hl 0 rfl) ?_
  refine lv_iload_n hx hb dX6_covered_1 rfl (lv_at hl 1 rfl) ?_
  obtain ⟨t1, r2, k3, hf⟩ := zb2_some hf
  refine zxVq (C := RX6) (As := [.int (zI p1)]) (rest := []) hx hb hml hown hts hl.1 hK hH hA (hX.kept hH.2.2.2.1) (c_X6_fieldNumbered hI hN hNF hst  h_sp h_sp_fields k3) zk_t2_183 zk_t2_185 zk_s1_12 zk_t1_1 zk_t2_186 hd_X6_fieldNumbered rfl ⟨rfl, rfl, Nat.le_of_ble_eq_true rfl, Nat.le_of_ble_eq_true rfl⟩ ⟨by decide, by decide⟩ hk_sp h_sp rfl rfl rfl (Nat.le_of_ble_eq_true rfl) dX6_covered_2 (fun E ce q9 σ4 Hσ4 lσ4 hp hE hH hce hcv hcl => ?_) (fun q5 σ4 Hσ4 lσ4 hp hH => ?_)
  · replace hf := (if_pos (zEx_ne hE)).symm.trans hf
    rw [hp] at hH
    cases hf
    exact zxout hQ hnh hlocks hH ⟨h_ra, h_ra_cells, h_FF, hbg⟩ hE ⟨by decide, by decide⟩ hce hcv hcl
  obtain ⟨ht0, hr1, hs1⟩ := hp; subst hr1; rw [hs1] at hH
  replace hf := (if_neg (fun z => z ht0)).symm.trans hf
  refine lv_astore_n (lv' := [(2, .ref (ad (fB r2))), (0, .ref (ad 0)), (1, .int (zI p1))]) hx hb dX6_covered_5 rfl hl (by decide) rfl (fun ls hl => ?_)
  refine lv_aload_n hx hb dX6_covered_6 rfl (lv_at hl 0 rfl) ?_
  obtain ⟨k6, hf⟩ := zck_some hf
  obtain ⟨h_fd, h_fd_cornerXs, h_fd_cornerYs, h_fd_crossings, h_pt, h_pt_xs, h_pt_ys⟩ := h_FF r2 k6.1 k6.2
  refine zget hx hb inlX0 rfl 2 rfl zk_t3_96 hts hown hK hH (fB_lt hNF k6 0 (by decide)) h_fd rfl dX6_covered_7 ?_
  obtain ⟨k7, hf⟩ := zck_some hf
  refine lz_if_eq (tgt := 15) hx hb k7 dX6_covered_10 (by decide) (fun c8 => ?_) (fun c8 => ?_)
  · replace hf := (if_pos c8).symm.trans hf
    refine lv_aload_n hx hb dX6_covered_15 rfl (lv_at hl 1 rfl) ?_
    refine zget hx hb inlX6 rfl 3 rfl zk_t1_152 hts hown hK hH hk_sp h_sp rfl dX6_covered_16 ?_
    refine lv_aload_n hx hb dX6_covered_19 rfl (lv_at hl 0 rfl) ?_
    obtain ⟨k9, hf⟩ := zck_some hf
    obtain ⟨h_fd, h_fd_cornerXs, h_fd_cornerYs, h_fd_crossings, h_pt, h_pt_xs, h_pt_ys⟩ := h_FF r2 k9.1 k9.2
    obtain ⟨a10, u11, u12, a13, a14, u15, k16, hf⟩ := zb6_some hf
    refine zcVq (C := RX0) (As := []) (rest := [.ref (ad 10)]) hx hb hml hown hts hl.1 hK hH hA (c_X0_needlePoints hI hN ⟨fB_ge _, fB_le hNF k9⟩ h_fd h_fd_cornerXs h_fd_cornerYs h_fd_crossings h_pt h_pt_xs h_pt_ys k16) zk_t1_197 zk_t1_198 zk_t1_199 zk_t1_13 zk_t1_200 hd_X0_needlePoints rfl ⟨rfl, rfl, Nat.le_of_ble_eq_true rfl, Nat.le_of_ble_eq_true rfl⟩ ⟨by decide, by decide⟩ (fB_lt hNF k9 0 (by decide)) h_fd rfl rfl rfl (Nat.le_of_ble_eq_true rfl) dX6_covered_20 (fun q18 σ17 Hσ17 lσ17 hp hH => ?_)
    obtain ⟨hr1, h_fd, h_fd_crossings, h_pt, h_pt_xs, h_pt_ys, hn⟩ := hp
    subst hr1
    obtain ⟨b19, eb19, hf⟩ := zlt_some hf
    obtain ⟨b20, eb20, hf⟩ := zlt_some hf
    obtain ⟨b21, eb21, hf⟩ := zlt_some hf
    obtain ⟨b22, eb22, hf⟩ := zlt_some hf
    obtain ⟨b23, eb23, hf⟩ := zlt_some hf
    obtain ⟨b24, eb24, hf⟩ := zlt_some hf
    have h_FF : zFF ad cI nF σ17 F_fd_colour F_fd_layer F_fd_column F_fd_cornerXs F_fd_cornerYs b19 F_fd_cornerCount b20 F_fd_density F_fd_length F_fd_shift F_fd_pull F_fd_underlay b21 b22 b23 b24 := zFF_upd (x := r2) k9.1 (fun i h46 hi => hn i (by omega) (by omega) (by omega) (by omega) (by omega)) h_FF (fun _ _ => rfl) (fun _ _ => rfl) (fun _ _ => rfl) (fun _ _ => rfl) (fun _ _ => rfl) (fun z hz => by rw [eb19]; exact zup_n hz) (fun _ _ => rfl) (fun z hz => by rw [eb20]; exact zup_n hz) (fun _ _ => rfl) (fun _ _ => rfl) (fun _ _ => rfl) (fun _ _ => rfl) (fun _ _ => rfl) (fun z hz => by rw [eb21]; exact zup_n hz) (fun z hz => by rw [eb22]; exact zup_n hz) (fun z hz => by rw [eb23]; exact zup_n hz) (fun z hz => by rw [eb24]; exact zup_n hz) (by (try simp only [eb19, eb20, eb21, eb22, eb23, eb24, zup_s]); exact h_fd) (by (try simp only [eb19, eb20, eb21, eb22, eb23, eb24, zup_s]); exact (hn (fB r2 + 1) (by omega) (by omega) (by omega) (by omega) (by omega)).trans h_fd_cornerXs) (by (try simp only [eb19, eb20, eb21, eb22, eb23, eb24, zup_s]); exact (hn (fB r2 + 2) (by omega) (by omega) (by omega) (by omega) (by omega)).trans h_fd_cornerYs) (by (try simp only [eb19, eb20, eb21, eb22, eb23, eb24, zup_s]); exact h_fd_crossings) (by (try simp only [eb19, eb20, eb21, eb22, eb23, eb24, zup_s]); exact h_pt) (by (try simp only [eb19, eb20, eb21, eb22, eb23, eb24, zup_s]); exact h_pt_xs) (by (try simp only [eb19, eb20, eb21, eb22, eb23, eb24, zup_s]); exact h_pt_ys)
    have h_sp := (hn 0 (by have := fB_ge r2; omega) (by have := fB_ge r2; omega) (by have := fB_ge r2; omega) (by have := fB_ge r2; omega) (by have := fB_ge r2; omega)).trans h_sp
    have h_sp_fields := (hn 1 (by have := fB_ge r2; omega) (by have := fB_ge r2; omega) (by have := fB_ge r2; omega) (by have := fB_ge r2; omega) (by have := fB_ge r2; omega)).trans h_sp_fields
    have h_ra := (hn 10 (by have := fB_ge r2; omega) (by have := fB_ge r2; omega) (by have := fB_ge r2; omega) (by have := fB_ge r2; omega) (by have := fB_ge r2; omega)).trans h_ra
    have h_ra_cells := (hn 11 (by have := fB_ge r2; omega) (by have := fB_ge r2; omega) (by have := fB_ge r2; omega) (by have := fB_ge r2; omega) (by have := fB_ge r2; omega)).trans h_ra_cells
    have hbg : ∀ i : Nat, i < 19 → i ≠ 10 → i ≠ 11 → σ17 i = σ0 i := fun i h46 a0 a1 => (hn i (by have := fB_ge r2; omega) (by have := fB_ge r2; omega) (by have := fB_ge r2; omega) (by have := fB_ge r2; omega) (by have := fB_ge r2; omega)).trans (hbg i h46 a0 a1)
    obtain ⟨k25, hf⟩ := zck_some hf
    obtain ⟨h_fd, h_fd_cornerXs, h_fd_cornerYs, h_fd_crossings, h_pt, h_pt_xs, h_pt_ys⟩ := h_FF r2 k25.1 k25.2
    obtain ⟨a26, u27, k28, hf⟩ := zb2_some hf
    refine zcVv (C := RX5) (As := [.ref (ad (fB r2 + 4))]) (rest := []) hx hb hml hown hts hl.1 hK hH hA (c_X5_walk hI hN ⟨fB_ge _, fB_le hNF k25⟩ h_pt h_pt_xs h_pt_ys h_ra h_ra_cells k28) zk_t2_188 zk_t2_189 zk_t2_190 zk_t1_3 zk_t2_191 hd_X5_walk rfl ⟨rfl, rfl, Nat.le_of_ble_eq_true rfl, Nat.le_of_ble_eq_true rfl⟩ ⟨by decide, by decide⟩ hk_ra h_ra rfl rfl rfl (Nat.le_of_ble_eq_true rfl) dX6_covered_23 (fun σ29 Hσ29 lσ29 hp hH => ?_)
    obtain ⟨h_ra, h_ra_cells, hn⟩ := hp
    have h_sp := (hn 0 (by decide) (by decide)).trans h_sp
    have h_sp_fields := (hn 1 (by decide) (by decide)).trans h_sp_fields
    have h_FF := zFF_keep (fun i hi => hn i (by omega) (by omega)) h_FF
    have hbg : ∀ i : Nat, i < 19 → i ≠ 10 → i ≠ 11 → σ29 i = σ0 i := fun i h46 a0 a1 => (hn i a0 a1).trans (hbg i h46 a0 a1)
    refine lv_aload_n hx hb dX6_covered_26 rfl (lv_at hl 1 rfl) ?_
    refine zget hx hb inlX6 rfl 3 rfl zk_t1_152 hts hown hK hH hk_sp h_sp rfl dX6_covered_27 ?_
    refine lv_aload_n hx hb dX6_covered_30 rfl (lv_at hl 0 rfl) ?_
    obtain ⟨k30, hf⟩ := zck_some hf
    obtain ⟨h_fd, h_fd_cornerXs, h_fd_cornerYs, h_fd_crossings, h_pt, h_pt_xs, h_pt_ys⟩ := h_FF r2 k30.1 k30.2
    obtain ⟨r31, a32, u33, k34, hf⟩ := zb3_some hf
    refine zcVf (C := RX5) (As := [.ref (ad (fB r2))]) (rest := []) hx hb hml hown hts hl.1 hK hH hA (c_X5_partCovered hI hN ⟨fB_ge _, fB_le hNF k30⟩ h_fd h_fd_cornerXs h_fd_cornerYs h_fd_crossings h_ra h_ra_cells k34) zk_t3_190 zk_t3_191 zk_t3_192 zk_t1_3 zk_t3_193 hd_X5_partCovered rfl ⟨rfl, rfl, Nat.le_of_ble_eq_true rfl, Nat.le_of_ble_eq_true rfl⟩ ⟨by decide, by decide⟩ hk_ra h_ra rfl rfl rfl (Nat.le_of_ble_eq_true rfl) dX6_covered_31 (fun q36 σ35 Hσ35 lσ35 hp hH => ?_)
    obtain ⟨hr1, h_fd, h_fd_crossings, hn⟩ := hp
    subst hr1
    obtain ⟨b37, eb37, hf⟩ := zlt_some hf
    obtain ⟨b38, eb38, hf⟩ := zlt_some hf
    have h_FF : zFF ad cI nF σ35 F_fd_colour F_fd_layer F_fd_column F_fd_cornerXs F_fd_cornerYs b37 F_fd_cornerCount b38 F_fd_density F_fd_length F_fd_shift F_fd_pull F_fd_underlay b21 b22 b23 b24 := zFF_upd (x := r2) k30.1 (fun i h46 hi => hn i (by omega) (by omega)) h_FF (fun _ _ => rfl) (fun _ _ => rfl) (fun _ _ => rfl) (fun _ _ => rfl) (fun _ _ => rfl) (fun z hz => by rw [eb37]; exact zup_n hz) (fun _ _ => rfl) (fun z hz => by rw [eb38]; exact zup_n hz) (fun _ _ => rfl) (fun _ _ => rfl) (fun _ _ => rfl) (fun _ _ => rfl) (fun _ _ => rfl) (fun _ _ => rfl) (fun _ _ => rfl) (fun _ _ => rfl) (fun _ _ => rfl) (by (try simp only [eb37, eb38, zup_s]); exact h_fd) (by (try simp only [eb37, eb38, zup_s]); exact (hn (fB r2 + 1) (by omega) (by omega)).trans h_fd_cornerXs) (by (try simp only [eb37, eb38, zup_s]); exact (hn (fB r2 + 2) (by omega) (by omega)).trans h_fd_cornerYs) (by (try simp only [eb37, eb38, zup_s]); exact h_fd_crossings) (by (try simp only [eb37, eb38, zup_s]); exact (hn (fB r2 + 4) (by omega) (by omega)).trans h_pt) (by (try simp only [eb37, eb38, zup_s]); exact (hn (fB r2 + 5) (by omega) (by omega)).trans h_pt_xs) (by (try simp only [eb37, eb38, zup_s]); exact (hn (fB r2 + 6) (by omega) (by omega)).trans h_pt_ys)
    have h_sp := (hn 0 (by have := fB_ge r2; omega) (by have := fB_ge r2; omega)).trans h_sp
    have h_sp_fields := (hn 1 (by have := fB_ge r2; omega) (by have := fB_ge r2; omega)).trans h_sp_fields
    have h_ra := (hn 10 (by have := fB_ge r2; omega) (by have := fB_ge r2; omega)).trans h_ra
    have h_ra_cells := (hn 11 (by have := fB_ge r2; omega) (by have := fB_ge r2; omega)).trans h_ra_cells
    have hbg : ∀ i : Nat, i < 19 → i ≠ 10 → i ≠ 11 → σ35 i = σ0 i := fun i h46 a0 a1 => (hn i (by have := fB_ge r2; omega) (by have := fB_ge r2; omega)).trans (hbg i h46 a0 a1)
    cases hf
    exact zxretf hx hb hr hlocks hQ hH ⟨rfl, rfl, h_ra, h_ra_cells, h_FF, hbg⟩ ⟨by decide, by decide⟩ dX6_covered_34
  · replace hf := (if_neg c8).symm.trans hf
    refine lv_fconst0 hx hb dX6_covered_13 ?_
    cases hf
    exact zxretf hx hb hr hlocks hQ hH ⟨rfl, rfl, h_ra, h_ra_cells, h_FF, hbg⟩ ⟨by decide, by decide⟩ dX6_covered_14
abbrev rmX6_touched : Room := { frames := 7, cells := 1, slots := 6, locals := 114 }
theorem hd_X6_touched : yX6_touched.cls = RX6 ∧ yX6_touched.cls ≠ "java/lang/invoke/MethodHandle" ∧ yX6_touched.cls ≠ "java/lang/invoke/VarHandle" ∧ (parseMethodDescriptor yX6_touched.desc).map (fun d => d.parameters.length) = some 1 := by decide +kernel
set_option maxHeartbeats 4000000 in
set_option maxRecDepth 100000 in
theorem c_X6_touched {l : Launch} {D : va_G} {cI cZ cF cL cD : ClassId} {ad : Nat → Nat} {N : Nat} (hI : ∀ i j, i < N → j < N → ad i = ad j → i = j) (hN : 19 ≤ N) {nF : Int} (hNF : N = 19 + 7 * nF.toNat) (hst : l.stackTraces = false) {σ0 : Nat → va_E} {sz : Nat} {sp_fieldCount : Int} {sp_trimBound : Int} {sp_planned : Int} {F_fd_colour : Int → Int} {F_fd_layer : Int → Int} {F_fd_column : Int → Int} {F_fd_cornerXs : Int → Int → Int} {F_fd_cornerYs : Int → Int → Int} {F_fd_crossings : Int → Int → Int} {F_fd_cornerCount : Int → Int} {F_fd_crossingCount : Int → Int} {F_fd_density : Int → Int} {F_fd_length : Int → Int} {F_fd_shift : Int → Int} {F_fd_pull : Int → Int} {F_fd_underlay : Int → Int} {F_fd_drawn : Int → Int} {F_pt_xs : Int → Int → Int} {F_pt_ys : Int → Int → Int} {F_pt_size : Int → Int} {ra_cells : Int → Int} {ra_cellCount : Int} {p1 : Int} {Rt : Int} {R0 : Int} {R_F_fd_crossings : Int → Int → Int} {R_F_fd_crossingCount : Int → Int} {R_F_fd_drawn : Int → Int} {R_F_pt_xs : Int → Int → Int} {R_F_pt_ys : Int → Int → Int} {R_F_pt_size : Int → Int} {R_ra_cells : Int → Int} {R_ra_cellCount : Int} (h_sp : σ0 0 = oC_sp ad sp_fieldCount sp_trimBound sp_planned) (h_sp_fields : σ0 1 = .inl (cF, 8, .inr (.inr (.inr (.inr (zFA ad nF)))))) (h_ra : σ0 10 = oC_ra ad ra_cellCount) (h_ra_cells : σ0 11 = .inl (cZ, 1024, .inl (zA ra_cells))) (h_FF : zFF ad cI nF σ0 F_fd_colour F_fd_layer F_fd_column F_fd_cornerXs F_fd_cornerYs F_fd_crossings F_fd_cornerCount F_fd_crossingCount F_fd_density F_fd_length F_fd_shift F_fd_pull F_fd_underlay F_fd_drawn F_pt_xs F_pt_ys F_pt_size) (hf : f_X6_touched sp_fieldCount F_fd_column F_fd_cornerXs F_fd_cornerYs F_fd_crossings F_fd_cornerCount F_fd_crossingCount F_fd_density F_fd_length F_fd_shift F_fd_pull F_fd_underlay F_fd_drawn F_pt_xs F_pt_ys F_pt_size ra_cells ra_cellCount nF p1 = some (Rt, R0, R_F_fd_crossings, R_F_fd_crossingCount, R_F_fd_drawn, R_F_pt_xs, R_F_pt_ys, R_F_pt_size, R_ra_cells, R_ra_cellCount)) :
    vx_Met l yX6_touched (Cond.code yX6_touched cX6_touched 3 (some .int) :: wsL_law) rmX6_touched (zPreX D ad N (zT cI cZ cF cL cD) σ0 sz [.ref (ad 0), .int (zI p1)]) (zQi D ad N sz (fun r σ' => Rt = 0 ∧ r = zI R0 ∧ σ' 10 = oC_ra ad R_ra_cellCount ∧ σ' 11 = .inl (cZ, 1024, .inl (zA R_ra_cells)) ∧ zFF ad cI nF σ' F_fd_colour F_fd_layer F_fd_column F_fd_cornerXs F_fd_cornerYs R_F_fd_crossings F_fd_cornerCount R_F_fd_crossingCount F_fd_density F_fd_length F_fd_shift F_fd_pull F_fd_underlay R_F_fd_drawn R_F_pt_xs R_F_pt_ys R_F_pt_size ∧ ∀ i : Nat, i < 19 → i ≠ 10 → i ≠ 11 → σ' i = σ0 i)) (zXC D ad N sz Rt (fun σ' => σ' 10 = oC_ra ad R_ra_cellCount ∧ σ' 11 = .inl (cZ, 1024, .inl (zA R_ra_cells)) ∧ zFF ad cI nF σ' F_fd_colour F_fd_layer F_fd_column F_fd_cornerXs F_fd_cornerYs R_F_fd_crossings F_fd_cornerCount R_F_fd_crossingCount F_fd_density F_fd_length F_fd_shift F_fd_pull F_fd_underlay R_F_fd_drawn R_F_pt_xs R_F_pt_ys R_F_pt_size ∧ ∀ i : Nat, i < 19 → i ≠ 10 → i ≠ 11 → σ' i = σ0 i)) 1 6 (zFr ad N sz) := by
  refine zMetX hI (by decide) (Nat.le_of_ble_eq_true rfl) ?_
  intro p e s m args below meth c Q hx hb hr hlocks hml hown hts hnh hK hX hsz hQ hH hA ls hl
  subst hsz
  have hk_sp : 0 < N := by omega
  have hk_sp_fields : 1 < N := by omega
  have hk_ra : 10 < N := by omega
  have hk_ra_cells : 11 < N := by omega
  have hl : lv_has ls 3 [(0, .ref (ad 0)), (1, .int (zI p1))] := hl
  have hbg : ∀ i : Nat, i < 19 → i ≠ 10 → i ≠ 11 → σ0 i = σ0 i := fun _ _ _ _ => rfl
  unfold f_X6_touched at hf
  refine lv_aload_n hx hb dX6_touched_0 rfl (lv_at hl 0 rfl) ?_
  refine lv_iload_n hx hb dX6_touched_1 rfl (lv_at hl 1 rfl) ?_
  obtain ⟨t1, r2, k3, hf⟩ := zb2_some hf
  refine zxVq (C := RX6) (As := [.int (zI p1)]) (rest := []) hx hb hml hown hts hl.1 hK hH hA (hX.kept hH.2.2.2.1) (c_X6_fieldNumbered hI hN hNF hst  h_sp h_sp_fields k3) zk_t2_183 zk_t2_185 zk_s1_12 zk_t1_1 zk_t2_186 hd_X6_fieldNumbered rfl ⟨rfl, rfl, Nat.le_of_ble_eq_true rfl, Nat.le_of_ble_eq_true rfl⟩ ⟨by decide, by decide⟩ hk_sp h_sp rfl rfl rfl (Nat.le_of_ble_eq_true rfl) dX6_touched_2 (fun E ce q9 σ4 Hσ4 lσ4 hp hE hH hce hcv hcl => ?_) (fun q5 σ4 Hσ4 lσ4 hp hH => ?_)
  · replace hf := (if_pos (zEx_ne hE)).symm.trans hf
    rw [hp] at hH
    cases hf
    exact zxout hQ hnh hlocks hH ⟨h_ra, h_ra_cells, h_FF, hbg⟩ hE ⟨by decide, by decide⟩ hce hcv hcl
  obtain ⟨ht0, hr1, hs1⟩ := hp; subst hr1; rw [hs1] at hH
  replace hf := (if_neg (fun z => z ht0)).symm.trans hf
  refine lv_astore_n (lv' := [(2, .ref (ad (fB r2))), (0, .ref (ad 0)), (1, .int (zI p1))]) hx hb dX6_touched_5 rfl hl (by decide) rfl (fun ls hl => ?_)
  refine lv_aload_n hx hb dX6_touched_6 rfl (lv_at hl 1 rfl) ?_
  refine zget hx hb inlX6 rfl 3 rfl zk_t1_152 hts hown hK hH hk_sp h_sp rfl dX6_touched_7 ?_
  refine lv_aload_n hx hb dX6_touched_10 rfl (lv_at hl 0 rfl) ?_
  obtain ⟨k6, hf⟩ := zck_some hf
  obtain ⟨h_fd, h_fd_cornerXs, h_fd_cornerYs, h_fd_crossings, h_pt, h_pt_xs, h_pt_ys⟩ := h_FF r2 k6.1 k6.2
  obtain ⟨a7, u8, u9, a10, a11, u12, k13, hf⟩ := zb6_some hf
  refine zcVq (C := RX0) (As := []) (rest := [.ref (ad 10)]) hx hb hml hown hts hl.1 hK hH hA (c_X0_needlePoints hI hN ⟨fB_ge _, fB_le hNF k6⟩ h_fd h_fd_cornerXs h_fd_cornerYs h_fd_crossings h_pt h_pt_xs h_pt_ys k13) zk_t1_197 zk_t1_198 zk_t1_199 zk_t1_13 zk_t1_200 hd_X0_needlePoints rfl ⟨rfl, rfl, Nat.le_of_ble_eq_true rfl, Nat.le_of_ble_eq_true rfl⟩ ⟨by decide, by decide⟩ (fB_lt hNF k6 0 (by decide)) h_fd rfl rfl rfl (Nat.le_of_ble_eq_true rfl) dX6_touched_11 (fun q15 σ14 Hσ14 lσ14 hp hH => ?_)
  obtain ⟨hr1, h_fd, h_fd_crossings, h_pt, h_pt_xs, h_pt_ys, hn⟩ := hp
  subst hr1
  obtain ⟨b16, eb16, hf⟩ := zlt_some hf
  obtain ⟨b17, eb17, hf⟩ := zlt_some hf
  obtain ⟨b18, eb18, hf⟩ := zlt_some hf
  obtain ⟨b19, eb19, hf⟩ := zlt_some hf
  obtain ⟨b20, eb20, hf⟩ := zlt_some hf
  obtain ⟨b21, eb21, hf⟩ := zlt_some hf
  have h_FF : zFF ad cI nF σ14 F_fd_colour F_fd_layer F_fd_column F_fd_cornerXs F_fd_cornerYs b16 F_fd_cornerCount b17 F_fd_density F_fd_length F_fd_shift F_fd_pull F_fd_underlay b18 b19 b20 b21 := zFF_upd (x := r2) k6.1 (fun i h46 hi => hn i (by omega) (by omega) (by omega) (by omega) (by omega)) h_FF (fun _ _ => rfl) (fun _ _ => rfl) (fun _ _ => rfl) (fun _ _ => rfl) (fun _ _ => rfl) (fun z hz => by rw [eb16]; exact zup_n hz) (fun _ _ => rfl) (fun z hz => by rw [eb17]; exact zup_n hz) (fun _ _ => rfl) (fun _ _ => rfl) (fun _ _ => rfl) (fun _ _ => rfl) (fun _ _ => rfl) (fun z hz => by rw [eb18]; exact zup_n hz) (fun z hz => by rw [eb19]; exact zup_n hz) (fun z hz => by rw [eb20]; exact zup_n hz) (fun z hz => by rw [eb21]; exact zup_n hz) (by (try simp only [eb16, eb17, eb18, eb19, eb20, eb21, zup_s]); exact h_fd) (by (try simp only [eb16, eb17, eb18, eb19, eb20, eb21, zup_s]); exact (hn (fB r2 + 1) (by omega) (by omega) (by omega) (by omega) (by omega)).trans h_fd_cornerXs) (by (try simp only [eb16, eb17, eb18, eb19, eb20, eb21, zup_s]); exact (hn (fB r2 + 2) (by omega) (by omega) (by omega) (by omega) (by omega)).trans h_fd_cornerYs) (by (try simp only [eb16, eb17, eb18, eb19, eb20, eb21, zup_s]); exact h_fd_crossings) (by (try simp only [eb16, eb17, eb18, eb19, eb20, eb21, zup_s]); exact h_pt) (by (try simp only [eb16, eb17, eb18, eb19, eb20, eb21, zup_s]); exact h_pt_xs) (by (try simp only [eb16, eb17, eb18, eb19, eb20, eb21, zup_s]); exact h_pt_ys)
  have h_sp := (hn 0 (by have := fB_ge r2; omega) (by have := fB_ge r2; omega) (by have := fB_ge r2; omega) (by have := fB_ge r2; omega) (by have := fB_ge r2; omega)).trans h_sp
  have h_sp_fields := (hn 1 (by have := fB_ge r2; omega) (by have := fB_ge r2; omega) (by have := fB_ge r2; omega) (by have := fB_ge r2; omega) (by have := fB_ge r2; omega)).trans h_sp_fields
  have h_ra := (hn 10 (by have := fB_ge r2; omega) (by have := fB_ge r2; omega) (by have := fB_ge r2; omega) (by have := fB_ge r2; omega) (by have := fB_ge r2; omega)).trans h_ra
  have h_ra_cells := (hn 11 (by have := fB_ge r2; omega) (by have := fB_ge r2; omega) (by have := fB_ge r2; omega) (by have := fB_ge r2; omega) (by have := fB_ge r2; omega)).trans h_ra_cells
  have hbg : ∀ i : Nat, i < 19 → i ≠ 10 → i ≠ 11 → σ14 i = σ0 i := fun i h46 a0 a1 => (hn i (by have := fB_ge r2; omega) (by have := fB_ge r2; omega) (by have := fB_ge r2; omega) (by have := fB_ge r2; omega) (by have := fB_ge r2; omega)).trans (hbg i h46 a0 a1)
  obtain ⟨k22, hf⟩ := zck_some hf
  obtain ⟨h_fd, h_fd_cornerXs, h_fd_cornerYs, h_fd_crossings, h_pt, h_pt_xs, h_pt_ys⟩ := h_FF r2 k22.1 k22.2
  obtain ⟨a23, u24, k25, hf⟩ := zb2_some hf
  refine zcVv (C := RX5) (As := [.ref (ad (fB r2 + 4))]) (rest := []) hx hb hml hown hts hl.1 hK hH hA (c_X5_walk hI hN ⟨fB_ge _, fB_le hNF k22⟩ h_pt h_pt_xs h_pt_ys h_ra h_ra_cells k25) zk_t2_188 zk_t2_189 zk_t2_190 zk_t1_3 zk_t2_191 hd_X5_walk rfl ⟨rfl, rfl, Nat.le_of_ble_eq_true rfl, Nat.le_of_ble_eq_true rfl⟩ ⟨by decide, by decide⟩ hk_ra h_ra rfl rfl rfl (Nat.le_of_ble_eq_true rfl) dX6_touched_14 (fun σ26 Hσ26 lσ26 hp hH => ?_)
  obtain ⟨h_ra, h_ra_cells, hn⟩ := hp
  have h_sp := (hn 0 (by decide) (by decide)).trans h_sp
  have h_sp_fields := (hn 1 (by decide) (by decide)).trans h_sp_fields
  have h_FF := zFF_keep (fun i hi => hn i (by omega) (by omega)) h_FF
  have hbg : ∀ i : Nat, i < 19 → i ≠ 10 → i ≠ 11 → σ26 i = σ0 i := fun i h46 a0 a1 => (hn i a0 a1).trans (hbg i h46 a0 a1)
  refine lv_aload_n hx hb dX6_touched_17 rfl (lv_at hl 1 rfl) ?_
  refine zget hx hb inlX6 rfl 3 rfl zk_t1_152 hts hown hK hH hk_sp h_sp rfl dX6_touched_18 ?_
  refine zget hx hb inlX5 rfl 1 rfl zk_t1_82 hts hown hK hH hk_ra h_ra rfl dX6_touched_21 ?_
  cases hf
  exact zxreti hx hb hr hlocks hQ hH ⟨rfl, rfl, h_ra, h_ra_cells, h_FF, hbg⟩ ⟨by decide, by decide⟩ dX6_touched_24
abbrev rmX6_write : Room := { frames := 7, cells := 1, slots := 6, locals := 167 }
theorem hd_X6_write : yX6_write.cls = RX6 ∧ yX6_write.cls ≠ "java/lang/invoke/MethodHandle" ∧ yX6_write.cls ≠ "java/lang/invoke/VarHandle" ∧ (parseMethodDescriptor yX6_write.desc).map (fun d => d.parameters.length) = some 1 := by decide +kernel
set_option maxHeartbeats 4000000 in
set_option maxRecDepth 100000 in
theorem c_X6_write {l : Launch} {D : va_G} {cI cZ cF cL cD : ClassId} {ad : Nat → Nat} {N : Nat} (hI : ∀ i j, i < N → j < N → ad i = ad j → i = j) (hN : 19 ≤ N) {nF : Int} (hNF : N = 19 + 7 * nF.toNat) (hst : l.stackTraces = false) {σ0 : Nat → va_E} {sz : Nat} {sp_waiting : Int → Int} {sp_fieldCount : Int} {sp_trimBound : Int} {sp_planned : Int} {F_fd_colour : Int → Int} {F_fd_layer : Int → Int} {F_fd_column : Int → Int} {F_fd_cornerXs : Int → Int → Int} {F_fd_cornerYs : Int → Int → Int} {F_fd_crossings : Int → Int → Int} {F_fd_cornerCount : Int → Int} {F_fd_crossingCount : Int → Int} {F_fd_density : Int → Int} {F_fd_length : Int → Int} {F_fd_shift : Int → Int} {F_fd_pull : Int → Int} {F_fd_underlay : Int → Int} {F_fd_drawn : Int → Int} {F_pt_xs : Int → Int → Int} {F_pt_ys : Int → Int → Int} {F_pt_size : Int → Int} {pl_kinds : Int → Int} {pl_differencesX : Int → Int} {pl_differencesY : Int → Int} {pl_owners : Int → Int} {pl_kindCounts : Int → Int} {pl_threads : Int → Int} {pl_size : Int} {pl_seconds : UInt32} {pl_needleX : Int} {pl_needleY : Int} {pl_colour : Int} {pa_bytes : Int → Int} {pa_size : Int} {pa_format : Int} {pa_faultPlace : Int} {pa_stitchesRead : Int} {p1 : Int} {Rt : Int} {R0 : Int} {R_sp_waiting : Int → Int} {R_sp_planned : Int} {R_F_fd_crossings : Int → Int → Int} {R_F_fd_crossingCount : Int → Int} {R_F_fd_drawn : Int → Int} {R_F_pt_xs : Int → Int → Int} {R_F_pt_ys : Int → Int → Int} {R_F_pt_size : Int → Int} {R_pl_kinds : Int → Int} {R_pl_differencesX : Int → Int} {R_pl_differencesY : Int → Int} {R_pl_owners : Int → Int} {R_pl_kindCounts : Int → Int} {R_pl_threads : Int → Int} {R_pl_size : Int} {R_pl_seconds : UInt32} {R_pl_needleX : Int} {R_pl_needleY : Int} {R_pl_colour : Int} {R_pa_bytes : Int → Int} {R_pa_size : Int} {R_pa_format : Int} (h_sp : σ0 0 = oC_sp ad sp_fieldCount sp_trimBound sp_planned) (h_sp_fields : σ0 1 = .inl (cF, 8, .inr (.inr (.inr (.inr (zFA ad nF)))))) (h_sp_waiting : σ0 2 = .inl (cZ, 8, .inl (zA sp_waiting))) (h_pl : σ0 3 = oC_pl ad pl_size pl_seconds pl_needleX pl_needleY pl_colour) (h_pl_kinds : σ0 4 = .inl (cI, 16641, .inl (zA pl_kinds))) (h_pl_differencesX : σ0 5 = .inl (cI, 16641, .inl (zA pl_differencesX))) (h_pl_differencesY : σ0 6 = .inl (cI, 16641, .inl (zA pl_differencesY))) (h_pl_owners : σ0 7 = .inl (cI, 16641, .inl (zA pl_owners))) (h_pl_kindCounts : σ0 8 = .inl (cI, 5, .inl (zA pl_kindCounts))) (h_pl_threads : σ0 9 = .inl (cI, 6, .inl (zA pl_threads))) (h_pa : σ0 12 = oC_pa ad pa_size pa_format pa_faultPlace pa_stitchesRead) (h_pa_bytes : σ0 13 = .inl (cI, 49924, .inl (zA pa_bytes))) (h_FF : zFF ad cI nF σ0 F_fd_colour F_fd_layer F_fd_column F_fd_cornerXs F_fd_cornerYs F_fd_crossings F_fd_cornerCount F_fd_crossingCount F_fd_density F_fd_length F_fd_shift F_fd_pull F_fd_underlay F_fd_drawn F_pt_xs F_pt_ys F_pt_size) (hf : f_X6_write sp_waiting sp_trimBound sp_planned F_fd_colour F_fd_layer F_fd_column F_fd_cornerXs F_fd_cornerYs F_fd_crossings F_fd_cornerCount F_fd_crossingCount F_fd_density F_fd_length F_fd_shift F_fd_pull F_fd_underlay F_fd_drawn F_pt_xs F_pt_ys F_pt_size pl_kinds pl_differencesX pl_differencesY pl_owners pl_kindCounts pl_threads pl_size pl_seconds pl_needleX pl_needleY pl_colour pa_bytes pa_size pa_format nF p1 = some (Rt, R0, R_sp_waiting, R_sp_planned, R_F_fd_crossings, R_F_fd_crossingCount, R_F_fd_drawn, R_F_pt_xs, R_F_pt_ys, R_F_pt_size, R_pl_kinds, R_pl_differencesX, R_pl_differencesY, R_pl_owners, R_pl_kindCounts, R_pl_threads, R_pl_size, R_pl_seconds, R_pl_needleX, R_pl_needleY, R_pl_colour, R_pa_bytes, R_pa_size, R_pa_format)) :
    vx_Met l yX6_write (Cond.code yX6_write cX6_write 2 (some .int) :: wsL_law) rmX6_write (zPreX D ad N (zT cI cZ cF cL cD) σ0 sz [.ref (ad 0), .int (zI p1)]) (zQi D ad N sz (fun r σ' => Rt = 0 ∧ r = zI R0 ∧ σ' 0 = oC_sp ad sp_fieldCount sp_trimBound R_sp_planned ∧ σ' 2 = .inl (cZ, 8, .inl (zA R_sp_waiting)) ∧ σ' 3 = oC_pl ad R_pl_size R_pl_seconds R_pl_needleX R_pl_needleY R_pl_colour ∧ σ' 4 = .inl (cI, 16641, .inl (zA R_pl_kinds)) ∧ σ' 5 = .inl (cI, 16641, .inl (zA R_pl_differencesX)) ∧ σ' 6 = .inl (cI, 16641, .inl (zA R_pl_differencesY)) ∧ σ' 7 = .inl (cI, 16641, .inl (zA R_pl_owners)) ∧ σ' 8 = .inl (cI, 5, .inl (zA R_pl_kindCounts)) ∧ σ' 9 = .inl (cI, 6, .inl (zA R_pl_threads)) ∧ σ' 12 = oC_pa ad R_pa_size R_pa_format pa_faultPlace pa_stitchesRead ∧ σ' 13 = .inl (cI, 49924, .inl (zA R_pa_bytes)) ∧ zFF ad cI nF σ' F_fd_colour F_fd_layer F_fd_column F_fd_cornerXs F_fd_cornerYs R_F_fd_crossings F_fd_cornerCount R_F_fd_crossingCount F_fd_density F_fd_length F_fd_shift F_fd_pull F_fd_underlay R_F_fd_drawn R_F_pt_xs R_F_pt_ys R_F_pt_size ∧ ∀ i : Nat, i < 19 → i ≠ 0 → i ≠ 2 → i ≠ 3 → i ≠ 4 → i ≠ 5 → i ≠ 6 → i ≠ 7 → i ≠ 8 → i ≠ 9 → i ≠ 12 → i ≠ 13 → σ' i = σ0 i)) (zXC D ad N sz Rt (fun σ' => σ' 0 = oC_sp ad sp_fieldCount sp_trimBound R_sp_planned ∧ σ' 2 = .inl (cZ, 8, .inl (zA R_sp_waiting)) ∧ σ' 3 = oC_pl ad R_pl_size R_pl_seconds R_pl_needleX R_pl_needleY R_pl_colour ∧ σ' 4 = .inl (cI, 16641, .inl (zA R_pl_kinds)) ∧ σ' 5 = .inl (cI, 16641, .inl (zA R_pl_differencesX)) ∧ σ' 6 = .inl (cI, 16641, .inl (zA R_pl_differencesY)) ∧ σ' 7 = .inl (cI, 16641, .inl (zA R_pl_owners)) ∧ σ' 8 = .inl (cI, 5, .inl (zA R_pl_kindCounts)) ∧ σ' 9 = .inl (cI, 6, .inl (zA R_pl_threads)) ∧ σ' 12 = oC_pa ad R_pa_size R_pa_format pa_faultPlace pa_stitchesRead ∧ σ' 13 = .inl (cI, 49924, .inl (zA R_pa_bytes)) ∧ zFF ad cI nF σ' F_fd_colour F_fd_layer F_fd_column F_fd_cornerXs F_fd_cornerYs R_F_fd_crossings F_fd_cornerCount R_F_fd_crossingCount F_fd_density F_fd_length F_fd_shift F_fd_pull F_fd_underlay R_F_fd_drawn R_F_pt_xs R_F_pt_ys R_F_pt_size ∧ ∀ i : Nat, i < 19 → i ≠ 0 → i ≠ 2 → i ≠ 3 → i ≠ 4 → i ≠ 5 → i ≠ 6 → i ≠ 7 → i ≠ 8 → i ≠ 9 → i ≠ 12 → i ≠ 13 → σ' i = σ0 i)) 1 6 (zFr ad N sz) := by
  refine zMetX hI (by decide) (Nat.le_of_ble_eq_true rfl) ?_
  intro p e s m args below meth c Q hx hb hr hlocks hml hown hts hnh hK hX hsz hQ hH hA ls hl
  subst hsz
  have hk_sp : 0 < N := by omega
  have hk_sp_fields : 1 < N := by omega
  have hk_sp_waiting : 2 < N := by omega
  have hk_pl : 3 < N := by omega
  have hk_pl_kinds : 4 < N := by omega
  have hk_pl_differencesX : 5 < N := by omega
  have hk_pl_differencesY : 6 < N := by omega
  have hk_pl_owners : 7 < N := by omega
  have hk_pl_kindCounts : 8 < N := by omega
  have hk_pl_threads : 9 < N := by omega
  have hk_pa : 12 < N := by omega
  have hk_pa_bytes : 13 < N := by omega
  have hl : lv_has ls 2 [(0, .ref (ad 0)), (1, .int (zI p1))] := hl
  have hbg : ∀ i : Nat, i < 19 → i ≠ 0 → i ≠ 2 → i ≠ 3 → i ≠ 4 → i ≠ 5 → i ≠ 6 → i ≠ 7 → i ≠ 8 → i ≠ 9 → i ≠ 12 → i ≠ 13 → σ0 i = σ0 i := fun _ _ _ _ _ _ _ _ _ _ _ _ _ => rfl
  have J19 : ∀ (sp_waiting : Int → Int) (sp_planned : Int) (F_fd_crossings : Int → Int → Int) (F_fd_crossingCount : Int → Int) (F_fd_drawn : Int → Int) (F_pt_xs : Int → Int → Int) (F_pt_ys : Int → Int → Int) (F_pt_size : Int → Int) (pl_kinds : Int → Int) (pl_differencesX : Int → Int) (pl_differencesY : Int → Int) (pl_owners : Int → Int) (pl_kindCounts : Int → Int) (pl_threads : Int → Int) (pl_size : Int) (pl_seconds : UInt32) (pl_needleX : Int) (pl_needleY : Int) (pl_colour : Int) (pa_bytes : Int → Int) (pa_size : Int) (pa_format : Int) (x1 : Int) (σ : Nat → va_E) (H : Heap) (locs : List Loc) (hH : zH D ad N (zFr ad N s.heap.size) s.heap σ H locs) (h_sp : σ 0 = oC_sp ad sp_fieldCount sp_trimBound sp_planned) (h_sp_fields : σ 1 = .inl (cF, 8, .inr (.inr (.inr (.inr (zFA ad nF)))))) (h_sp_waiting : σ 2 = .inl (cZ, 8, .inl (zA sp_waiting))) (h_pl : σ 3 = oC_pl ad pl_size pl_seconds pl_needleX pl_needleY pl_colour) (h_pl_kinds : σ 4 = .inl (cI, 16641, .inl (zA pl_kinds))) (h_pl_differencesX : σ 5 = .inl (cI, 16641, .inl (zA pl_differencesX))) (h_pl_differencesY : σ 6 = .inl (cI, 16641, .inl (zA pl_differencesY))) (h_pl_owners : σ 7 = .inl (cI, 16641, .inl (zA pl_owners))) (h_pl_kindCounts : σ 8 = .inl (cI, 5, .inl (zA pl_kindCounts))) (h_pl_threads : σ 9 = .inl (cI, 6, .inl (zA pl_threads))) (h_pa : σ 12 = oC_pa ad pa_size pa_format pa_faultPlace pa_stitchesRead) (h_pa_bytes : σ 13 = .inl (cI, 49924, .inl (zA pa_bytes))) (h_FF : zFF ad cI nF σ F_fd_colour F_fd_layer F_fd_column F_fd_cornerXs F_fd_cornerYs F_fd_crossings F_fd_cornerCount F_fd_crossingCount F_fd_density F_fd_length F_fd_shift F_fd_pull F_fd_underlay F_fd_drawn F_pt_xs F_pt_ys F_pt_size) (hbg : ∀ i : Nat, i < 19 → i ≠ 0 → i ≠ 2 → i ≠ 3 → i ≠ 4 → i ≠ 5 → i ≠ 6 → i ≠ 7 → i ≠ 8 → i ≠ 9 → i ≠ 12 → i ≠ 13 → σ i = σ0 i) (ls : Array Slot) (hl : lv_has ls 2 [(0, .ref (ad 0)), (1, .int (zI x1))]), f_X6_write_19 sp_waiting sp_trimBound sp_planned F_fd_colour F_fd_layer F_fd_column F_fd_cornerXs F_fd_cornerYs F_fd_crossings F_fd_cornerCount F_fd_crossingCount F_fd_density F_fd_length F_fd_shift F_fd_pull F_fd_underlay F_fd_drawn F_pt_xs F_pt_ys F_pt_size pl_kinds pl_differencesX pl_differencesY pl_owners pl_kindCounts pl_threads pl_size pl_seconds pl_needleX pl_needleY pl_colour pa_bytes pa_size pa_format nF x1 = some (Rt, R0, R_sp_waiting, R_sp_planned, R_F_fd_crossings, R_F_fd_crossingCount, R_F_fd_drawn, R_F_pt_xs, R_F_pt_ys, R_F_pt_size, R_pl_kinds, R_pl_differencesX, R_pl_differencesY, R_pl_owners, R_pl_kindCounts, R_pl_threads, R_pl_size, R_pl_seconds, R_pl_needleX, R_pl_needleY, R_pl_colour, R_pa_bytes, R_pa_size, R_pa_format) → W p l e rmX6_write s m args below meth c H locs 0 0 Q (F0 m 19 ls []) := by
    intro sp_waiting sp_planned F_fd_crossings F_fd_crossingCount F_fd_drawn F_pt_xs F_pt_ys F_pt_size pl_kinds pl_differencesX pl_differencesY pl_owners pl_kindCounts pl_threads pl_size pl_seconds pl_needleX pl_needleY pl_colour pa_bytes pa_size pa_format x1 σ H locs hH h_sp h_sp_fields h_sp_waiting h_pl h_pl_kinds h_pl_differencesX h_pl_differencesY h_pl_owners h_pl_kindCounts h_pl_threads h_pa h_pa_bytes h_FF hbg ls hl hf
    unfold f_X6_write_19 at hf
    refine lv_aload_n hx hb dX6_write_19 rfl (lv_at hl 0 rfl) ?_
    obtain ⟨a1, u2, u3, u4, u5, u6, u7, u8, a9, a10, a11, a12, a13, a14, u15, u16, u17, u18, u19, k20, hf⟩ := zb19_some hf
    refine zcVv (C := RX6) (As := []) (rest := []) hx hb hml hown hts hl.1 hK hH hA (c_X6_refresh hI hN hNF  h_sp h_sp_fields h_sp_waiting h_pl h_pl_kinds h_pl_differencesX h_pl_differencesY h_pl_owners h_pl_kindCounts h_pl_threads h_FF k20) zk_t1_193 zk_t1_195 zk_s1_0 zk_t1_1 zk_t1_196 hd_X6_refresh rfl ⟨rfl, rfl, Nat.le_of_ble_eq_true rfl, Nat.le_of_ble_eq_true rfl⟩ ⟨by decide, by decide⟩ hk_sp h_sp rfl rfl rfl (Nat.le_of_ble_eq_true rfl) dX6_write_20 (fun σ21 Hσ21 lσ21 hp hH => ?_)
    obtain ⟨h_sp, h_sp_waiting, h_pl, h_pl_kinds, h_pl_differencesX, h_pl_differencesY, h_pl_owners, h_pl_kindCounts, h_pl_threads, h_FF, hn⟩ := hp
    have h_sp_fields := (hn 1 (by decide) (by decide) (by decide) (by decide) (by decide) (by decide) (by decide) (by decide) (by decide) (by decide)).trans h_sp_fields
    have h_pa := (hn 12 (by decide) (by decide) (by decide) (by decide) (by decide) (by decide) (by decide) (by decide) (by decide) (by decide)).trans h_pa
    have h_pa_bytes := (hn 13 (by decide) (by decide) (by decide) (by decide) (by decide) (by decide) (by decide) (by decide) (by decide) (by decide)).trans h_pa_bytes
    have hbg : ∀ i : Nat, i < 19 → i ≠ 0 → i ≠ 2 → i ≠ 3 → i ≠ 4 → i ≠ 5 → i ≠ 6 → i ≠ 7 → i ≠ 8 → i ≠ 9 → i ≠ 12 → i ≠ 13 → σ21 i = σ0 i := fun i h46 a0 a1 a2 a3 a4 a5 a6 a7 a8 a9 a10 => (hn i h46 a0 a1 a2 a3 a4 a5 a6 a7 a8).trans (hbg i h46 a0 a1 a2 a3 a4 a5 a6 a7 a8 a9 a10)
    refine lv_aload_n hx hb dX6_write_23 rfl (lv_at hl 0 rfl) ?_
    refine zget hx hb inlX6 rfl 4 rfl zk_t1_153 hts hown hK hH hk_sp h_sp rfl dX6_write_24 ?_
    refine lv_aload_n hx hb dX6_write_27 rfl (lv_at hl 0 rfl) ?_
    refine zget hx hb inlX6 rfl 2 rfl zk_t1_151 hts hown hK hH hk_sp h_sp rfl dX6_write_28 ?_
    refine lv_iload_n hx hb dX6_write_31 rfl (lv_at hl 1 rfl) ?_
    obtain ⟨a22, u23, u24, k25, hf⟩ := zb3_some hf
    refine zcVv (C := RX2) (As := [.ref (ad 3), .int (zI x1)]) (rest := []) hx hb hml hown hts hl.1 hK hH hA (c_X2_take hI hN  h_pl h_pl_kinds h_pl_differencesX h_pl_differencesY h_pl_owners h_pa h_pa_bytes k25) zk_t3_212 zk_t3_213 zk_t3_214 zk_t1_4 zk_t3_215 hd_X2_take rfl ⟨rfl, rfl, Nat.le_of_ble_eq_true rfl, Nat.le_of_ble_eq_true rfl⟩ ⟨by decide, by decide⟩ hk_pa h_pa rfl rfl rfl (Nat.le_of_ble_eq_true rfl) dX6_write_32 (fun σ26 Hσ26 lσ26 hp hH => ?_)
    obtain ⟨h_pa, h_pa_bytes, hn⟩ := hp
    have h_sp := (hn 0 (by decide) (by decide)).trans h_sp
    have h_sp_fields := (hn 1 (by decide) (by decide)).trans h_sp_fields
    have h_sp_waiting := (hn 2 (by decide) (by decide)).trans h_sp_waiting
    have h_pl := (hn 3 (by decide) (by decide)).trans h_pl
    have h_pl_kinds := (hn 4 (by decide) (by decide)).trans h_pl_kinds
    have h_pl_differencesX := (hn 5 (by decide) (by decide)).trans h_pl_differencesX
    have h_pl_differencesY := (hn 6 (by decide) (by decide)).trans h_pl_differencesY
    have h_pl_owners := (hn 7 (by decide) (by decide)).trans h_pl_owners
    have h_pl_kindCounts := (hn 8 (by decide) (by decide)).trans h_pl_kindCounts
    have h_pl_threads := (hn 9 (by decide) (by decide)).trans h_pl_threads
    have h_FF := zFF_keep (fun i hi => hn i (by omega) (by omega)) h_FF
    have hbg : ∀ i : Nat, i < 19 → i ≠ 0 → i ≠ 2 → i ≠ 3 → i ≠ 4 → i ≠ 5 → i ≠ 6 → i ≠ 7 → i ≠ 8 → i ≠ 9 → i ≠ 12 → i ≠ 13 → σ26 i = σ0 i := fun i h46 a0 a1 a2 a3 a4 a5 a6 a7 a8 a9 a10 => (hn i a9 a10).trans (hbg i h46 a0 a1 a2 a3 a4 a5 a6 a7 a8 a9 a10)
    refine lv_aload_n hx hb dX6_write_35 rfl (lv_at hl 0 rfl) ?_
    refine zget hx hb inlX6 rfl 4 rfl zk_t1_153 hts hown hK hH hk_sp h_sp rfl dX6_write_36 ?_
    refine zget hx hb inlX2 rfl 1 rfl zk_t1_98 hts hown hK hH hk_pa h_pa rfl dX6_write_39 ?_
    cases hf
    exact zxreti hx hb hr hlocks hQ hH ⟨rfl, rfl, h_sp, h_sp_waiting, h_pl, h_pl_kinds, h_pl_differencesX, h_pl_differencesY, h_pl_owners, h_pl_kindCounts, h_pl_threads, h_pa, h_pa_bytes, h_FF, hbg⟩ ⟨by decide, by decide⟩ dX6_write_42
  unfold f_X6_write at hf
  refine lv_iload_n hx hb dX6_write_0 rfl (lv_at hl 1 rfl) ?_
  obtain ⟨k27, hf⟩ := zck_some hf
  refine lz_if_eq (tgt := 19) hx hb k27 dX6_write_1 (by decide) (fun c28 => ?_) (fun c28 => ?_)
  · replace hf := (if_pos c28).symm.trans hf
    exact J19 sp_waiting sp_planned F_fd_crossings F_fd_crossingCount F_fd_drawn F_pt_xs F_pt_ys F_pt_size pl_kinds pl_differencesX pl_differencesY pl_owners pl_kindCounts pl_threads pl_size pl_seconds pl_needleX pl_needleY pl_colour pa_bytes pa_size pa_format p1 _ _ _ hH h_sp h_sp_fields h_sp_waiting h_pl h_pl_kinds h_pl_differencesX h_pl_differencesY h_pl_owners h_pl_kindCounts h_pl_threads h_pa h_pa_bytes h_FF hbg _ (lv_sub hl [0, 1] rfl) hf
  · replace hf := (if_neg c28).symm.trans hf
    refine lv_iload_n hx hb dX6_write_4 rfl (lv_at hl 1 rfl) ?_
    refine lv_iconst (v := zI 1) hx hb dX6_write_5 (by decide +kernel) ?_
    obtain ⟨k29, hf⟩ := zck_some hf
    refine lz_icmp_eq (tgt := 19) hx hb ⟨k29, by decide⟩ dX6_write_6 (by decide) (fun c30 => ?_) (fun c30 => ?_)
    · replace hf := (if_pos c30).symm.trans hf
      exact J19 sp_waiting sp_planned F_fd_crossings F_fd_crossingCount F_fd_drawn F_pt_xs F_pt_ys F_pt_size pl_kinds pl_differencesX pl_differencesY pl_owners pl_kindCounts pl_threads pl_size pl_seconds pl_needleX pl_needleY pl_colour pa_bytes pa_size pa_format p1 _ _ _ hH h_sp h_sp_fields h_sp_waiting h_pl h_pl_kinds h_pl_differencesX h_pl_differencesY h_pl_owners h_pl_kindCounts h_pl_threads h_pa h_pa_bytes h_FF hbg _ (lv_sub hl [0, 1] rfl) hf
    · replace hf := (if_neg c30).symm.trans hf
      cases hf
      exact zthr_a hx hb hst hQ hnh hlocks hown hts zk_t2_158 zk_t1_11 hX (is := 172) (text := "a format is SHORT or LONG") (by decide +kernel) (hl.1.trans hml.symm) hH ⟨h_sp, h_sp_waiting, h_pl, h_pl_kinds, h_pl_differencesX, h_pl_differencesY, h_pl_owners, h_pl_kindCounts, h_pl_threads, h_pa, h_pa_bytes, h_FF, hbg⟩ ⟨by decide, by decide, by decide, by decide⟩ ⟨by decide, by decide⟩ dX6_write_9 dX6_write_12 dX6_write_13 dX6_write_15 dX6_write_18
abbrev rmX6_byteAt : Room := { frames := 6, cells := 1, slots := 6, locals := 92 }
theorem hd_X6_byteAt : yX6_byteAt.cls = RX6 ∧ yX6_byteAt.cls ≠ "java/lang/invoke/MethodHandle" ∧ yX6_byteAt.cls ≠ "java/lang/invoke/VarHandle" ∧ (parseMethodDescriptor yX6_byteAt.desc).map (fun d => d.parameters.length) = some 1 := by decide +kernel
set_option maxHeartbeats 4000000 in
set_option maxRecDepth 100000 in
theorem c_X6_byteAt {l : Launch} {D : va_G} {cI cZ cF cL cD : ClassId} {ad : Nat → Nat} {N : Nat} (hI : ∀ i j, i < N → j < N → ad i = ad j → i = j) (hN : 19 ≤ N) (hst : l.stackTraces = false) {σ0 : Nat → va_E} {sz : Nat} {sp_fieldCount : Int} {sp_trimBound : Int} {sp_planned : Int} {pa_bytes : Int → Int} {pa_size : Int} {pa_format : Int} {pa_faultPlace : Int} {pa_stitchesRead : Int} {p1 : Int} {Rt : Int} {R0 : Int} (h_sp : σ0 0 = oC_sp ad sp_fieldCount sp_trimBound sp_planned) (h_pa : σ0 12 = oC_pa ad pa_size pa_format pa_faultPlace pa_stitchesRead) (h_pa_bytes : σ0 13 = .inl (cI, 49924, .inl (zA pa_bytes))) (hf : f_X6_byteAt pa_bytes pa_size p1 = some (Rt, R0)) :
    vx_Met l yX6_byteAt (Cond.code yX6_byteAt cX6_byteAt 2 (some .int) :: wsL_law) rmX6_byteAt (zPreX D ad N (zT cI cZ cF cL cD) σ0 sz [.ref (ad 0), .int (zI p1)]) (zQi D ad N sz (fun r σ' => Rt = 0 ∧ r = zI R0 ∧ σ' = σ0)) (zXC D ad N sz Rt (fun σ' => σ' = σ0)) 1 6 (zFr ad N sz) := by
  refine zMetX hI (by decide) (Nat.le_of_ble_eq_true rfl) ?_
  intro p e s m args below meth c Q hx hb hr hlocks hml hown hts hnh hK hX hsz hQ hH hA ls hl
  subst hsz
  have hk_sp : 0 < N := by omega
  have hk_pa : 12 < N := by omega
  have hk_pa_bytes : 13 < N := by omega
  have hl : lv_has ls 2 [(0, .ref (ad 0)), (1, .int (zI p1))] := hl
  have hbg : σ0 = σ0 := rfl
  unfold f_X6_byteAt at hf
  refine lv_aload_n hx hb dX6_byteAt_0 rfl (lv_at hl 0 rfl) ?_
  refine zget hx hb inlX6 rfl 4 rfl zk_t1_153 hts hown hK hH hk_sp h_sp rfl dX6_byteAt_1 ?_
  refine lv_iload_n hx hb dX6_byteAt_4 rfl (lv_at hl 1 rfl) ?_
  obtain ⟨r1, k2, hf⟩ := zb1_some hf
  refine zcVi (C := RX2) (As := [.int (zI p1)]) (rest := []) hx hb hml hown hts hl.1 hK hH hA (c_X2_has hI hN  h_pa h_pa_bytes k2) zk_t2_208 zk_t2_209 zk_t2_210 zk_t1_4 zk_t2_211 hd_X2_has rfl ⟨rfl, rfl, Nat.le_of_ble_eq_true rfl, Nat.le_of_ble_eq_true rfl⟩ ⟨by decide, by decide⟩ hk_pa h_pa rfl rfl rfl (Nat.le_of_ble_eq_true rfl) dX6_byteAt_5 (fun q4 σ3 Hσ3 lσ3 hp hH => ?_)
  obtain ⟨hr1, hs1⟩ := hp; subst hr1; rw [hs1] at hH
  obtain ⟨k5, hf⟩ := zck_some hf
  refine lz_if_ne (tgt := 21) hx hb k5 dX6_byteAt_8 (by decide) (fun c6 => ?_) (fun c6 => ?_)
  · replace hf := (if_neg c6).symm.trans hf
    refine lv_aload_n hx hb dX6_byteAt_21 rfl (lv_at hl 0 rfl) ?_
    refine zget hx hb inlX6 rfl 4 rfl zk_t1_153 hts hown hK hH hk_sp h_sp rfl dX6_byteAt_22 ?_
    refine zget hx hb inlX2 rfl 0 rfl zk_t1_96 hts hown hK hH hk_pa h_pa rfl dX6_byteAt_25 ?_
    refine lv_iload_n hx hb dX6_byteAt_28 rfl (lv_at hl 1 rfl) ?_
    obtain ⟨k7, hf⟩ := zck_some hf
    refine ziald hx hb hK hH hk_pa_bytes 0 h_pa_bytes rfl k7 rfl dX6_byteAt_29 ?_
    cases hf
    exact zxreti hx hb hr hlocks hQ hH ⟨rfl, rfl, hbg⟩ ⟨by decide, by decide⟩ dX6_byteAt_30
  · replace hf := (if_pos c6).symm.trans hf
    cases hf
    exact zthr_i hx hb hst hQ hnh hlocks hown hts zk_t2_90 zk_t1_10 hX (is := 182) (text := "there is no such byte") (by decide +kernel) (hl.1.trans hml.symm) hH hbg ⟨by decide, by decide, by decide, by decide⟩ ⟨by decide, by decide⟩ dX6_byteAt_11 dX6_byteAt_14 dX6_byteAt_15 dX6_byteAt_17 dX6_byteAt_20
abbrev rmX6_damage : Room := { frames := 6, cells := 1, slots := 6, locals := 92 }
theorem hd_X6_damage : yX6_damage.cls = RX6 ∧ yX6_damage.cls ≠ "java/lang/invoke/MethodHandle" ∧ yX6_damage.cls ≠ "java/lang/invoke/VarHandle" ∧ (parseMethodDescriptor yX6_damage.desc).map (fun d => d.parameters.length) = some 2 := by decide +kernel
set_option maxHeartbeats 4000000 in
set_option maxRecDepth 100000 in
theorem c_X6_damage {l : Launch} {D : va_G} {cI cZ cF cL cD : ClassId} {ad : Nat → Nat} {N : Nat} (hI : ∀ i j, i < N → j < N → ad i = ad j → i = j) (hN : 19 ≤ N) (hst : l.stackTraces = false) {σ0 : Nat → va_E} {sz : Nat} {sp_fieldCount : Int} {sp_trimBound : Int} {sp_planned : Int} {pa_bytes : Int → Int} {pa_size : Int} {pa_format : Int} {pa_faultPlace : Int} {pa_stitchesRead : Int} {p1 : Int} {p2 : Int} {Rt : Int} {R0 : Int} {R_pa_bytes : Int → Int} (h_sp : σ0 0 = oC_sp ad sp_fieldCount sp_trimBound sp_planned) (h_pa : σ0 12 = oC_pa ad pa_size pa_format pa_faultPlace pa_stitchesRead) (h_pa_bytes : σ0 13 = .inl (cI, 49924, .inl (zA pa_bytes))) (hf : f_X6_damage pa_bytes pa_size p1 p2 = some (Rt, R0, R_pa_bytes)) :
    vx_Met l yX6_damage (Cond.code yX6_damage cX6_damage 4 (some .int) :: wsL_law) rmX6_damage (zPreX D ad N (zT cI cZ cF cL cD) σ0 sz [.ref (ad 0), .int (zI p1), .int (zI p2)]) (zQi D ad N sz (fun r σ' => Rt = 0 ∧ r = zI R0 ∧ σ' 13 = .inl (cI, 49924, .inl (zA R_pa_bytes)) ∧ ∀ i : Nat, i ≠ 13 → σ' i = σ0 i)) (zXC D ad N sz Rt (fun σ' => σ' 13 = .inl (cI, 49924, .inl (zA R_pa_bytes)) ∧ ∀ i : Nat, i ≠ 13 → σ' i = σ0 i)) 1 6 (zFr ad N sz) := by
  refine zMetX hI (by decide) (Nat.le_of_ble_eq_true rfl) ?_
  intro p e s m args below meth c Q hx hb hr hlocks hml hown hts hnh hK hX hsz hQ hH hA ls hl
  subst hsz
  have hk_sp : 0 < N := by omega
  have hk_pa : 12 < N := by omega
  have hk_pa_bytes : 13 < N := by omega
  have hl : lv_has ls 4 [(0, .ref (ad 0)), (1, .int (zI p1)), (2, .int (zI p2))] := hl
  have hbg : ∀ i : Nat, i ≠ 13 → σ0 i = σ0 i := fun _ _ => rfl
  unfold f_X6_damage at hf
  refine lv_aload_n hx hb dX6_damage_0 rfl (lv_at hl 0 rfl) ?_
  refine zget hx hb inlX6 rfl 4 rfl zk_t1_153 hts hown hK hH hk_sp h_sp rfl dX6_damage_1 ?_
  refine lv_iload_n hx hb dX6_damage_4 rfl (lv_at hl 1 rfl) ?_
  obtain ⟨r1, k2, hf⟩ := zb1_some hf
  refine zcVi (C := RX2) (As := [.int (zI p1)]) (rest := []) hx hb hml hown hts hl.1 hK hH hA (c_X2_has hI hN  h_pa h_pa_bytes k2) zk_t2_208 zk_t2_209 zk_t2_210 zk_t1_4 zk_t2_211 hd_X2_has rfl ⟨rfl, rfl, Nat.le_of_ble_eq_true rfl, Nat.le_of_ble_eq_true rfl⟩ ⟨by decide, by decide⟩ hk_pa h_pa rfl rfl rfl (Nat.le_of_ble_eq_true rfl) dX6_damage_5 (fun q4 σ3 Hσ3 lσ3 hp hH => ?_)
  obtain ⟨hr1, hs1⟩ := hp; subst hr1; rw [hs1] at hH
  obtain ⟨k5, hf⟩ := zck_some hf
  refine lz_if_ne (tgt := 21) hx hb k5 dX6_damage_8 (by decide) (fun c6 => ?_) (fun c6 => ?_)
  · replace hf := (if_neg c6).symm.trans hf
    refine lv_iload_n hx hb dX6_damage_21 rfl (lv_at hl 2 rfl) ?_
    refine lv_iconst (v := zI 0) hx hb dX6_damage_22 (by decide +kernel) ?_
    refine lv_sipush (v := zI 255) hx hb dX6_damage_23 (by decide +kernel) ?_
    obtain ⟨r7, k8, hf⟩ := zb1_some hf
    refine zcSi (As := [.int (zI p2), .int (zI 0), .int (zI 255)]) (rest := []) hx hb hml hown hts hl.1 hK hH hA (c_X6_isWithin hI hN   k8) zk_t2_87 zk_t2_88 zk_t1_1 zk_t2_89 hd_X6_isWithin rfl ⟨rfl, rfl, Nat.le_of_ble_eq_true rfl, Nat.le_of_ble_eq_true rfl⟩ ⟨by decide, by decide⟩ rfl (Nat.le_of_ble_eq_true rfl) dX6_damage_26 (fun q10 σ9 Hσ9 lσ9 hp hH => ?_)
    obtain ⟨hr1, hs1⟩ := hp; subst hr1; rw [hs1] at hH
    obtain ⟨k11, hf⟩ := zck_some hf
    refine lz_if_ne (tgt := 42) hx hb k11 dX6_damage_29 (by decide) (fun c12 => ?_) (fun c12 => ?_)
    · replace hf := (if_neg c12).symm.trans hf
      refine lv_aload_n hx hb dX6_damage_42 rfl (lv_at hl 0 rfl) ?_
      refine zget hx hb inlX6 rfl 4 rfl zk_t1_153 hts hown hK hH hk_sp h_sp rfl dX6_damage_43 ?_
      refine zget hx hb inlX2 rfl 0 rfl zk_t1_96 hts hown hK hH hk_pa h_pa rfl dX6_damage_46 ?_
      refine lv_iload_n hx hb dX6_damage_49 rfl (lv_at hl 1 rfl) ?_
      obtain ⟨k13, hf⟩ := zck_some hf
      refine ziald hx hb hK hH hk_pa_bytes 0 h_pa_bytes rfl k13 rfl dX6_damage_50 ?_
      obtain ⟨v14, ev14, hf⟩ := zlt_some hf
      refine lz_nm ev14 ?_
      refine lv_istore_n (lv' := [(3, .int (zI v14)), (0, .ref (ad 0)), (1, .int (zI p1)), (2, .int (zI p2))]) hx hb dX6_damage_51 rfl hl (by decide) rfl (fun ls hl => ?_)
      refine lv_aload_n hx hb dX6_damage_52 rfl (lv_at hl 1 rfl) ?_
      refine zget hx hb inlX6 rfl 4 rfl zk_t1_153 hts hown hK hH hk_sp h_sp rfl dX6_damage_53 ?_
      refine zget hx hb inlX2 rfl 0 rfl zk_t1_96 hts hown hK hH hk_pa h_pa rfl dX6_damage_56 ?_
      refine lv_iload_n hx hb dX6_damage_59 rfl (lv_at hl 2 rfl) ?_
      refine lv_iload_n hx hb dX6_damage_60 rfl (lv_at hl 3 rfl) ?_
      obtain ⟨k15, hf⟩ := zck_some hf
      obtain ⟨a17, ea17, hf⟩ := zlt_some hf
      refine ziast hx hb hK hH hk_pa_bytes 0 h_pa_bytes rfl k15 rfl dX6_damage_61 (fun σ16 Hσ16 lσ16 h_pa_bytes hn hH => ?_)
      rw [← ea17] at h_pa_bytes
      have h_sp := (hn 0 (by decide)).trans h_sp
      have h_pa := (hn 12 (by decide)).trans h_pa
      have hbg : ∀ i : Nat, i ≠ 13 → σ16 i = σ0 i := fun i a0 => (hn i a0).trans (hbg i a0)
      refine lv_iload_n hx hb dX6_damage_62 rfl (lv_at hl 0 rfl) ?_
      cases hf
      exact zxreti hx hb hr hlocks hQ hH ⟨rfl, rfl, h_pa_bytes, hbg⟩ ⟨by decide, by decide⟩ dX6_damage_63
    · replace hf := (if_pos c12).symm.trans hf
      cases hf
      exact zthr_a hx hb hst hQ hnh hlocks hown hts zk_t2_158 zk_t1_11 hX (is := 187) (text := "a byte is 0 to 255") (by decide +kernel) (hl.1.trans hml.symm) hH ⟨h_pa_bytes, hbg⟩ ⟨by decide, by decide, by decide, by decide⟩ ⟨by decide, by decide⟩ dX6_damage_32 dX6_damage_35 dX6_damage_36 dX6_damage_38 dX6_damage_41
  · replace hf := (if_pos c6).symm.trans hf
    cases hf
    exact zthr_i hx hb hst hQ hnh hlocks hown hts zk_t2_90 zk_t1_10 hX (is := 182) (text := "there is no such byte") (by decide +kernel) (hl.1.trans hml.symm) hH ⟨h_pa_bytes, hbg⟩ ⟨by decide, by decide, by decide, by decide⟩ ⟨by decide, by decide⟩ dX6_damage_11 dX6_damage_14 dX6_damage_15 dX6_damage_17 dX6_damage_20
abbrev rmX6_shorten : Room := { frames := 6, cells := 1, slots := 6, locals := 92 }
theorem hd_X6_shorten : yX6_shorten.cls = RX6 ∧ yX6_shorten.cls ≠ "java/lang/invoke/MethodHandle" ∧ yX6_shorten.cls ≠ "java/lang/invoke/VarHandle" ∧ (parseMethodDescriptor yX6_shorten.desc).map (fun d => d.parameters.length) = some 1 := by decide +kernel
set_option maxHeartbeats 4000000 in
set_option maxRecDepth 100000 in
theorem c_X6_shorten {l : Launch} {D : va_G} {cI cZ cF cL cD : ClassId} {ad : Nat → Nat} {N : Nat} (hI : ∀ i j, i < N → j < N → ad i = ad j → i = j) (hN : 19 ≤ N) (hst : l.stackTraces = false) {σ0 : Nat → va_E} {sz : Nat} {sp_fieldCount : Int} {sp_trimBound : Int} {sp_planned : Int} {pa_size : Int} {pa_format : Int} {pa_faultPlace : Int} {pa_stitchesRead : Int} {p1 : Int} {Rt : Int} {R0 : Int} {R_pa_size : Int} (h_sp : σ0 0 = oC_sp ad sp_fieldCount sp_trimBound sp_planned) (h_pa : σ0 12 = oC_pa ad pa_size pa_format pa_faultPlace pa_stitchesRead) (hf : f_X6_shorten pa_size p1 = some (Rt, R0, R_pa_size)) :
    vx_Met l yX6_shorten (Cond.code yX6_shorten cX6_shorten 3 (some .int) :: wsL_law) rmX6_shorten (zPreX D ad N (zT cI cZ cF cL cD) σ0 sz [.ref (ad 0), .int (zI p1)]) (zQi D ad N sz (fun r σ' => Rt = 0 ∧ r = zI R0 ∧ σ' 12 = oC_pa ad R_pa_size pa_format pa_faultPlace pa_stitchesRead ∧ ∀ i : Nat, i ≠ 12 → σ' i = σ0 i)) (zXC D ad N sz Rt (fun σ' => σ' 12 = oC_pa ad R_pa_size pa_format pa_faultPlace pa_stitchesRead ∧ ∀ i : Nat, i ≠ 12 → σ' i = σ0 i)) 1 6 (zFr ad N sz) := by
  refine zMetX hI (by decide) (Nat.le_of_ble_eq_true rfl) ?_
  intro p e s m args below meth c Q hx hb hr hlocks hml hown hts hnh hK hX hsz hQ hH hA ls hl
  subst hsz
  have hk_sp : 0 < N := by omega
  have hk_pa : 12 < N := by omega
  have hl : lv_has ls 3 [(0, .ref (ad 0)), (1, .int (zI p1))] := hl
  have hbg : ∀ i : Nat, i ≠ 12 → σ0 i = σ0 i := fun _ _ => rfl
  unfold f_X6_shorten at hf
  refine lv_iload_n hx hb dX6_shorten_0 rfl (lv_at hl 1 rfl) ?_
  refine lv_iconst (v := zI 0) hx hb dX6_shorten_1 (by decide +kernel) ?_
  refine lv_aload_n hx hb dX6_shorten_2 rfl (lv_at hl 0 rfl) ?_
  refine zget hx hb inlX6 rfl 4 rfl zk_t1_153 hts hown hK hH hk_sp h_sp rfl dX6_shorten_3 ?_
  refine zget hx hb inlX2 rfl 1 rfl zk_t1_98 hts hown hK hH hk_pa h_pa rfl dX6_shorten_6 ?_
  obtain ⟨r1, k2, hf⟩ := zb1_some hf
  refine zcSi (As := [.int (zI p1), .int (zI 0), .int (zI pa_size)]) (rest := []) hx hb hml hown hts hl.1 hK hH hA (c_X6_isWithin hI hN   k2) zk_t2_87 zk_t2_88 zk_t1_1 zk_t2_89 hd_X6_isWithin rfl ⟨rfl, rfl, Nat.le_of_ble_eq_true rfl, Nat.le_of_ble_eq_true rfl⟩ ⟨by decide, by decide⟩ rfl (Nat.le_of_ble_eq_true rfl) dX6_shorten_9 (fun q4 σ3 Hσ3 lσ3 hp hH => ?_)
  obtain ⟨hr1, hs1⟩ := hp; subst hr1; rw [hs1] at hH
  obtain ⟨k5, hf⟩ := zck_some hf
  refine lz_if_ne (tgt := 25) hx hb k5 dX6_shorten_12 (by decide) (fun c6 => ?_) (fun c6 => ?_)
  · replace hf := (if_neg c6).symm.trans hf
    refine lv_aload_n hx hb dX6_shorten_25 rfl (lv_at hl 0 rfl) ?_
    refine zget hx hb inlX6 rfl 4 rfl zk_t1_153 hts hown hK hH hk_sp h_sp rfl dX6_shorten_26 ?_
    refine zget hx hb inlX2 rfl 1 rfl zk_t1_98 hts hown hK hH hk_pa h_pa rfl dX6_shorten_29 ?_
    refine lv_istore_n (lv' := [(2, .int (zI pa_size)), (0, .ref (ad 0)), (1, .int (zI p1))]) hx hb dX6_shorten_32 rfl hl (by decide) rfl (fun ls hl => ?_)
    refine lv_aload_n hx hb dX6_shorten_33 rfl (lv_at hl 1 rfl) ?_
    refine zget hx hb inlX6 rfl 4 rfl zk_t1_153 hts hown hK hH hk_sp h_sp rfl dX6_shorten_34 ?_
    refine lv_iload_n hx hb dX6_shorten_37 rfl (lv_at hl 2 rfl) ?_
    refine zput hx hb inlX2 tyX2 tyX2_ok nmX2 rfl 1 rfl zk_t1_98 rfl hts hown hK hH hk_pa h_pa rfl rfl rfl dX6_shorten_38 (fun σ7 Hσ7 lσ7 h_pa hn hH => ?_)
    have h_pa : σ7 12 = oC_pa ad p1 pa_format pa_faultPlace pa_stitchesRead := h_pa
    have h_sp := (hn 0 (by decide)).trans h_sp
    have hbg : ∀ i : Nat, i ≠ 12 → σ7 i = σ0 i := fun i a0 => (hn i a0).trans (hbg i a0)
    refine lv_iload_n hx hb dX6_shorten_41 rfl (lv_at hl 0 rfl) ?_
    cases hf
    exact zxreti hx hb hr hlocks hQ hH ⟨rfl, rfl, h_pa, hbg⟩ ⟨by decide, by decide⟩ dX6_shorten_42
  · replace hf := (if_pos c6).symm.trans hf
    cases hf
    exact zthr_a hx hb hst hQ hnh hlocks hown hts zk_t2_158 zk_t1_11 hX (is := 189) (text := "the file is not so long") (by decide +kernel) (hl.1.trans hml.symm) hH ⟨h_pa, hbg⟩ ⟨by decide, by decide, by decide, by decide⟩ ⟨by decide, by decide⟩ dX6_shorten_15 dX6_shorten_18 dX6_shorten_19 dX6_shorten_21 dX6_shorten_24
abbrev rmX6_fault : Room := { frames := 4, cells := 0, slots := 0, locals := 93 }
theorem hd_X6_fault : yX6_fault.cls = RX6 ∧ yX6_fault.cls ≠ "java/lang/invoke/MethodHandle" ∧ yX6_fault.cls ≠ "java/lang/invoke/VarHandle" ∧ (parseMethodDescriptor yX6_fault.desc).map (fun d => d.parameters.length) = some 0 := by decide +kernel
set_option maxHeartbeats 4000000 in
set_option maxRecDepth 100000 in
theorem c_X6_fault {l : Launch} {D : va_G} {cI cZ cF cL cD : ClassId} {ad : Nat → Nat} {N : Nat} (hI : ∀ i j, i < N → j < N → ad i = ad j → i = j) (hN : 19 ≤ N) {σ0 : Nat → va_E} {sz : Nat} {sp_fieldCount : Int} {sp_trimBound : Int} {sp_planned : Int} {pa_bytes : Int → Int} {pa_size : Int} {pa_format : Int} {pa_faultPlace : Int} {pa_stitchesRead : Int} {R0 : Int} {R_pa_faultPlace : Int} {R_pa_stitchesRead : Int} (h_sp : σ0 0 = oC_sp ad sp_fieldCount sp_trimBound sp_planned) (h_pa : σ0 12 = oC_pa ad pa_size pa_format pa_faultPlace pa_stitchesRead) (h_pa_bytes : σ0 13 = .inl (cI, 49924, .inl (zA pa_bytes))) (hf : f_X6_fault pa_bytes pa_size pa_format pa_faultPlace pa_stitchesRead = some (R0, R_pa_faultPlace, R_pa_stitchesRead)) :
    Met l yX6_fault (Cond.code yX6_fault cX6_fault 1 (some .int) :: wsL_law) rmX6_fault (zPre D ad N (zT cI cZ cF cL cD) σ0 sz [.ref (ad 0)]) (zQi D ad N sz (fun r σ' => r = zI R0 ∧ σ' 12 = oC_pa ad pa_size pa_format R_pa_faultPlace R_pa_stitchesRead ∧ ∀ i : Nat, i ≠ 12 → σ' i = σ0 i)) 0 0 (zFr ad N sz) := by
  refine zMet hI (plainFor_of_name (by decide)) (Nat.le_of_ble_eq_true rfl) ⟨rfl, rfl⟩ ?_
  intro p e s m args below meth c Q hx hb hr hlocks hml hown hts hK hsz hQ hH hA ls hl
  subst hsz
  have hk_sp : 0 < N := by omega
  have hk_pa : 12 < N := by omega
  have hk_pa_bytes : 13 < N := by omega
  have hl : lv_has ls 1 [(0, .ref (ad 0))] := hl
  have hbg : ∀ i : Nat, i ≠ 12 → σ0 i = σ0 i := fun _ _ => rfl
  unfold f_X6_fault at hf
  refine lv_aload_n hx hb dX6_fault_0 rfl (lv_at hl 0 rfl) ?_
  refine zget hx hb inlX6 rfl 4 rfl zk_t1_153 hts hown hK hH hk_sp h_sp rfl dX6_fault_1 ?_
  obtain ⟨u1, u2, k3, hf⟩ := zb2_some hf
  refine zcVv (C := RX2) (As := []) (rest := []) hx hb hml hown hts hl.1 hK hH hA (c_X2_inspect hI hN  h_pa h_pa_bytes k3) zk_t2_227 zk_t2_228 zk_t2_229 zk_t1_4 zk_t2_230 hd_X2_inspect rfl ⟨rfl, rfl, Nat.le_of_ble_eq_true rfl, Nat.le_of_ble_eq_true rfl⟩ ⟨Nat.zero_le _, Nat.zero_le _⟩ hk_pa h_pa rfl rfl rfl (Nat.le_of_ble_eq_true rfl) dX6_fault_4 (fun σ4 Hσ4 lσ4 hp hH => ?_)
  obtain ⟨h_pa, hn⟩ := hp
  have h_sp := (hn 0 (by decide)).trans h_sp
  have h_pa_bytes := (hn 13 (by decide)).trans h_pa_bytes
  have hbg : ∀ i : Nat, i ≠ 12 → σ4 i = σ0 i := fun i a0 => (hn i a0).trans (hbg i a0)
  refine lv_aload_n hx hb dX6_fault_7 rfl (lv_at hl 0 rfl) ?_
  refine zget hx hb inlX6 rfl 4 rfl zk_t1_153 hts hown hK hH hk_sp h_sp rfl dX6_fault_8 ?_
  refine zget hx hb inlX2 rfl 3 rfl zk_t1_101 hts hown hK hH hk_pa h_pa rfl dX6_fault_11 ?_
  cases hf
  exact zreti hx hb hr hlocks hQ hH ⟨rfl, h_pa, hbg⟩ dX6_fault_14
abbrev rmX6_reads : Room := { frames := 4, cells := 0, slots := 0, locals := 93 }
theorem hd_X6_reads : yX6_reads.cls = RX6 ∧ yX6_reads.cls ≠ "java/lang/invoke/MethodHandle" ∧ yX6_reads.cls ≠ "java/lang/invoke/VarHandle" ∧ (parseMethodDescriptor yX6_reads.desc).map (fun d => d.parameters.length) = some 0 := by decide +kernel
set_option maxHeartbeats 4000000 in
set_option maxRecDepth 100000 in
theorem c_X6_reads {l : Launch} {D : va_G} {cI cZ cF cL cD : ClassId} {ad : Nat → Nat} {N : Nat} (hI : ∀ i j, i < N → j < N → ad i = ad j → i = j) (hN : 19 ≤ N) {σ0 : Nat → va_E} {sz : Nat} {sp_fieldCount : Int} {sp_trimBound : Int} {sp_planned : Int} {pa_bytes : Int → Int} {pa_size : Int} {pa_format : Int} {pa_faultPlace : Int} {pa_stitchesRead : Int} {R0 : Int} {R_pa_faultPlace : Int} {R_pa_stitchesRead : Int} (h_sp : σ0 0 = oC_sp ad sp_fieldCount sp_trimBound sp_planned) (h_pa : σ0 12 = oC_pa ad pa_size pa_format pa_faultPlace pa_stitchesRead) (h_pa_bytes : σ0 13 = .inl (cI, 49924, .inl (zA pa_bytes))) (hf : f_X6_reads pa_bytes pa_size pa_format pa_faultPlace pa_stitchesRead = some (R0, R_pa_faultPlace, R_pa_stitchesRead)) :
    Met l yX6_reads (Cond.code yX6_reads cX6_reads 1 (some .int) :: wsL_law) rmX6_reads (zPre D ad N (zT cI cZ cF cL cD) σ0 sz [.ref (ad 0)]) (zQi D ad N sz (fun r σ' => r = zI R0 ∧ σ' 12 = oC_pa ad pa_size pa_format R_pa_faultPlace R_pa_stitchesRead ∧ ∀ i : Nat, i ≠ 12 → σ' i = σ0 i)) 0 0 (zFr ad N sz) := by
  refine zMet hI (plainFor_of_name (by decide)) (Nat.le_of_ble_eq_true rfl) ⟨rfl, rfl⟩ ?_
  intro p e s m args below meth c Q hx hb hr hlocks hml hown hts hK hsz hQ hH hA ls hl
  subst hsz
  have hk_sp : 0 < N := by omega
  have hk_pa : 12 < N := by omega
  have hk_pa_bytes : 13 < N := by omega
  have hl : lv_has ls 1 [(0, .ref (ad 0))] := hl
  have hbg : ∀ i : Nat, i ≠ 12 → σ0 i = σ0 i := fun _ _ => rfl
  unfold f_X6_reads at hf
  refine lv_aload_n hx hb dX6_reads_0 rfl (lv_at hl 0 rfl) ?_
  refine zget hx hb inlX6 rfl 4 rfl zk_t1_153 hts hown hK hH hk_sp h_sp rfl dX6_reads_1 ?_
  obtain ⟨u1, u2, k3, hf⟩ := zb2_some hf
  refine zcVv (C := RX2) (As := []) (rest := []) hx hb hml hown hts hl.1 hK hH hA (c_X2_inspect hI hN  h_pa h_pa_bytes k3) zk_t2_227 zk_t2_228 zk_t2_229 zk_t1_4 zk_t2_230 hd_X2_inspect rfl ⟨rfl, rfl, Nat.le_of_ble_eq_true rfl, Nat.le_of_ble_eq_true rfl⟩ ⟨Nat.zero_le _, Nat.zero_le _⟩ hk_pa h_pa rfl rfl rfl (Nat.le_of_ble_eq_true rfl) dX6_reads_4 (fun σ4 Hσ4 lσ4 hp hH => ?_)
  obtain ⟨h_pa, hn⟩ := hp
  have h_sp := (hn 0 (by decide)).trans h_sp
  have h_pa_bytes := (hn 13 (by decide)).trans h_pa_bytes
  have hbg : ∀ i : Nat, i ≠ 12 → σ4 i = σ0 i := fun i a0 => (hn i a0).trans (hbg i a0)
  refine lv_aload_n hx hb dX6_reads_7 rfl (lv_at hl 0 rfl) ?_
  refine zget hx hb inlX6 rfl 4 rfl zk_t1_153 hts hown hK hH hk_sp h_sp rfl dX6_reads_8 ?_
  refine zget hx hb inlX2 rfl 4 rfl zk_t1_103 hts hown hK hH hk_pa h_pa rfl dX6_reads_11 ?_
  cases hf
  exact zreti hx hb hr hlocks hQ hH ⟨rfl, h_pa, hbg⟩ dX6_reads_14
abbrev rmX6_start : Room := { frames := 7, cells := 1, slots := 6, locals := 167 }
theorem hd_X6_start : yX6_start.cls = RX6 ∧ yX6_start.cls ≠ "java/lang/invoke/MethodHandle" ∧ yX6_start.cls ≠ "java/lang/invoke/VarHandle" ∧ (parseMethodDescriptor yX6_start.desc).map (fun d => d.parameters.length) = some 2 := by decide +kernel
set_option maxHeartbeats 4000000 in
set_option maxRecDepth 100000 in
theorem c_X6_start {l : Launch} {D : va_G} {cI cZ cF cL cD : ClassId} {ad : Nat → Nat} {N : Nat} (hI : ∀ i j, i < N → j < N → ad i = ad j → i = j) (hN : 19 ≤ N) {nF : Int} (hNF : N = 19 + 7 * nF.toNat) (hst : l.stackTraces = false) {σ0 : Nat → va_E} {sz : Nat} {sp_waiting : Int → Int} {sp_fieldCount : Int} {sp_trimBound : Int} {sp_planned : Int} {F_fd_colour : Int → Int} {F_fd_layer : Int → Int} {F_fd_column : Int → Int} {F_fd_cornerXs : Int → Int → Int} {F_fd_cornerYs : Int → Int → Int} {F_fd_crossings : Int → Int → Int} {F_fd_cornerCount : Int → Int} {F_fd_crossingCount : Int → Int} {F_fd_density : Int → Int} {F_fd_length : Int → Int} {F_fd_shift : Int → Int} {F_fd_pull : Int → Int} {F_fd_underlay : Int → Int} {F_fd_drawn : Int → Int} {F_pt_xs : Int → Int → Int} {F_pt_ys : Int → Int → Int} {F_pt_size : Int → Int} {pl_kinds : Int → Int} {pl_differencesX : Int → Int} {pl_differencesY : Int → Int} {pl_owners : Int → Int} {pl_kindCounts : Int → Int} {pl_threads : Int → Int} {pl_size : Int} {pl_seconds : UInt32} {pl_needleX : Int} {pl_needleY : Int} {pl_colour : Int} {ma_stitchesAhead : Int → Int} {ma_broken : Int → Int} {ma_brokeAt : Int → Int} {ma_stitches : Int → Int} {ma_headCount : Int} {ma_late : Int} {ma_commandCount : Int} {ma_place : Int} {p1 : Int} {p2 : Int} {Rt : Int} {R_sp_waiting : Int → Int} {R_sp_planned : Int} {R_F_fd_crossings : Int → Int → Int} {R_F_fd_crossingCount : Int → Int} {R_F_fd_drawn : Int → Int} {R_F_pt_xs : Int → Int → Int} {R_F_pt_ys : Int → Int → Int} {R_F_pt_size : Int → Int} {R_pl_kinds : Int → Int} {R_pl_differencesX : Int → Int} {R_pl_differencesY : Int → Int} {R_pl_owners : Int → Int} {R_pl_kindCounts : Int → Int} {R_pl_threads : Int → Int} {R_pl_size : Int} {R_pl_seconds : UInt32} {R_pl_needleX : Int} {R_pl_needleY : Int} {R_pl_colour : Int} {R_ma_stitchesAhead : Int → Int} {R_ma_broken : Int → Int} {R_ma_brokeAt : Int → Int} {R_ma_stitches : Int → Int} {R_ma_headCount : Int} {R_ma_late : Int} {R_ma_commandCount : Int} {R_ma_place : Int} (h_sp : σ0 0 = oC_sp ad sp_fieldCount sp_trimBound sp_planned) (h_sp_fields : σ0 1 = .inl (cF, 8, .inr (.inr (.inr (.inr (zFA ad nF)))))) (h_sp_waiting : σ0 2 = .inl (cZ, 8, .inl (zA sp_waiting))) (h_pl : σ0 3 = oC_pl ad pl_size pl_seconds pl_needleX pl_needleY pl_colour) (h_pl_kinds : σ0 4 = .inl (cI, 16641, .inl (zA pl_kinds))) (h_pl_differencesX : σ0 5 = .inl (cI, 16641, .inl (zA pl_differencesX))) (h_pl_differencesY : σ0 6 = .inl (cI, 16641, .inl (zA pl_differencesY))) (h_pl_owners : σ0 7 = .inl (cI, 16641, .inl (zA pl_owners))) (h_pl_kindCounts : σ0 8 = .inl (cI, 5, .inl (zA pl_kindCounts))) (h_pl_threads : σ0 9 = .inl (cI, 6, .inl (zA pl_threads))) (h_ma : σ0 14 = oC_ma ad ma_headCount ma_late ma_commandCount ma_place) (h_ma_stitchesAhead : σ0 15 = .inl (cI, 16642, .inl (zA ma_stitchesAhead))) (h_ma_broken : σ0 16 = .inl (cZ, 4, .inl (zA ma_broken))) (h_ma_brokeAt : σ0 17 = .inl (cI, 4, .inl (zA ma_brokeAt))) (h_ma_stitches : σ0 18 = .inl (cI, 4, .inl (zA ma_stitches))) (h_FF : zFF ad cI nF σ0 F_fd_colour F_fd_layer F_fd_column F_fd_cornerXs F_fd_cornerYs F_fd_crossings F_fd_cornerCount F_fd_crossingCount F_fd_density F_fd_length F_fd_shift F_fd_pull F_fd_underlay F_fd_drawn F_pt_xs F_pt_ys F_pt_size) (hf : f_X6_start sp_waiting sp_trimBound sp_planned F_fd_colour F_fd_layer F_fd_column F_fd_cornerXs F_fd_cornerYs F_fd_crossings F_fd_cornerCount F_fd_crossingCount F_fd_density F_fd_length F_fd_shift F_fd_pull F_fd_underlay F_fd_drawn F_pt_xs F_pt_ys F_pt_size pl_kinds pl_differencesX pl_differencesY pl_owners pl_kindCounts pl_threads pl_size pl_seconds pl_needleX pl_needleY pl_colour ma_stitchesAhead ma_broken ma_brokeAt ma_stitches ma_headCount ma_late ma_commandCount ma_place nF p1 p2 = some (Rt, R_sp_waiting, R_sp_planned, R_F_fd_crossings, R_F_fd_crossingCount, R_F_fd_drawn, R_F_pt_xs, R_F_pt_ys, R_F_pt_size, R_pl_kinds, R_pl_differencesX, R_pl_differencesY, R_pl_owners, R_pl_kindCounts, R_pl_threads, R_pl_size, R_pl_seconds, R_pl_needleX, R_pl_needleY, R_pl_colour, R_ma_stitchesAhead, R_ma_broken, R_ma_brokeAt, R_ma_stitches, R_ma_headCount, R_ma_late, R_ma_commandCount, R_ma_place)) :
    vx_Met l yX6_start (Cond.code yX6_start cX6_start 3 none :: wsL_law) rmX6_start (zPreX D ad N (zT cI cZ cF cL cD) σ0 sz [.ref (ad 0), .int (zI p1), .int (zI p2)]) (zQv D ad N sz (fun σ' => Rt = 0 ∧ σ' 0 = oC_sp ad sp_fieldCount sp_trimBound R_sp_planned ∧ σ' 2 = .inl (cZ, 8, .inl (zA R_sp_waiting)) ∧ σ' 3 = oC_pl ad R_pl_size R_pl_seconds R_pl_needleX R_pl_needleY R_pl_colour ∧ σ' 4 = .inl (cI, 16641, .inl (zA R_pl_kinds)) ∧ σ' 5 = .inl (cI, 16641, .inl (zA R_pl_differencesX)) ∧ σ' 6 = .inl (cI, 16641, .inl (zA R_pl_differencesY)) ∧ σ' 7 = .inl (cI, 16641, .inl (zA R_pl_owners)) ∧ σ' 8 = .inl (cI, 5, .inl (zA R_pl_kindCounts)) ∧ σ' 9 = .inl (cI, 6, .inl (zA R_pl_threads)) ∧ σ' 14 = oC_ma ad R_ma_headCount R_ma_late R_ma_commandCount R_ma_place ∧ σ' 15 = .inl (cI, 16642, .inl (zA R_ma_stitchesAhead)) ∧ σ' 16 = .inl (cZ, 4, .inl (zA R_ma_broken)) ∧ σ' 17 = .inl (cI, 4, .inl (zA R_ma_brokeAt)) ∧ σ' 18 = .inl (cI, 4, .inl (zA R_ma_stitches)) ∧ zFF ad cI nF σ' F_fd_colour F_fd_layer F_fd_column F_fd_cornerXs F_fd_cornerYs R_F_fd_crossings F_fd_cornerCount R_F_fd_crossingCount F_fd_density F_fd_length F_fd_shift F_fd_pull F_fd_underlay R_F_fd_drawn R_F_pt_xs R_F_pt_ys R_F_pt_size ∧ ∀ i : Nat, i < 19 → i ≠ 0 → i ≠ 2 → i ≠ 3 → i ≠ 4 → i ≠ 5 → i ≠ 6 → i ≠ 7 → i ≠ 8 → i ≠ 9 → i ≠ 14 → i ≠ 15 → i ≠ 16 → i ≠ 17 → i ≠ 18 → σ' i = σ0 i)) (zXC D ad N sz Rt (fun σ' => σ' 0 = oC_sp ad sp_fieldCount sp_trimBound R_sp_planned ∧ σ' 2 = .inl (cZ, 8, .inl (zA R_sp_waiting)) ∧ σ' 3 = oC_pl ad R_pl_size R_pl_seconds R_pl_needleX R_pl_needleY R_pl_colour ∧ σ' 4 = .inl (cI, 16641, .inl (zA R_pl_kinds)) ∧ σ' 5 = .inl (cI, 16641, .inl (zA R_pl_differencesX)) ∧ σ' 6 = .inl (cI, 16641, .inl (zA R_pl_differencesY)) ∧ σ' 7 = .inl (cI, 16641, .inl (zA R_pl_owners)) ∧ σ' 8 = .inl (cI, 5, .inl (zA R_pl_kindCounts)) ∧ σ' 9 = .inl (cI, 6, .inl (zA R_pl_threads)) ∧ σ' 14 = oC_ma ad R_ma_headCount R_ma_late R_ma_commandCount R_ma_place ∧ σ' 15 = .inl (cI, 16642, .inl (zA R_ma_stitchesAhead)) ∧ σ' 16 = .inl (cZ, 4, .inl (zA R_ma_broken)) ∧ σ' 17 = .inl (cI, 4, .inl (zA R_ma_brokeAt)) ∧ σ' 18 = .inl (cI, 4, .inl (zA R_ma_stitches)) ∧ zFF ad cI nF σ' F_fd_colour F_fd_layer F_fd_column F_fd_cornerXs F_fd_cornerYs R_F_fd_crossings F_fd_cornerCount R_F_fd_crossingCount F_fd_density F_fd_length F_fd_shift F_fd_pull F_fd_underlay R_F_fd_drawn R_F_pt_xs R_F_pt_ys R_F_pt_size ∧ ∀ i : Nat, i < 19 → i ≠ 0 → i ≠ 2 → i ≠ 3 → i ≠ 4 → i ≠ 5 → i ≠ 6 → i ≠ 7 → i ≠ 8 → i ≠ 9 → i ≠ 14 → i ≠ 15 → i ≠ 16 → i ≠ 17 → i ≠ 18 → σ' i = σ0 i)) 1 6 (zFr ad N sz) := by
  refine zMetX hI (by decide) (Nat.le_of_ble_eq_true rfl) ?_
  intro p e s m args below meth c Q hx hb hr hlocks hml hown hts hnh hK hX hsz hQ hH hA ls hl
  subst hsz
  have hk_sp : 0 < N := by omega
  have hk_sp_fields : 1 < N := by omega
  have hk_sp_waiting : 2 < N := by omega
  have hk_pl : 3 < N := by omega
  have hk_pl_kinds : 4 < N := by omega
  have hk_pl_differencesX : 5 < N := by omega
  have hk_pl_differencesY : 6 < N := by omega
  have hk_pl_owners : 7 < N := by omega
  have hk_pl_kindCounts : 8 < N := by omega
  have hk_pl_threads : 9 < N := by omega
  have hk_ma : 14 < N := by omega
  have hk_ma_stitchesAhead : 15 < N := by omega
  have hk_ma_broken : 16 < N := by omega
  have hk_ma_brokeAt : 17 < N := by omega
  have hk_ma_stitches : 18 < N := by omega
  have hl : lv_has ls 3 [(0, .ref (ad 0)), (1, .int (zI p1)), (2, .int (zI p2))] := hl
  have hbg : ∀ i : Nat, i < 19 → i ≠ 0 → i ≠ 2 → i ≠ 3 → i ≠ 4 → i ≠ 5 → i ≠ 6 → i ≠ 7 → i ≠ 8 → i ≠ 9 → i ≠ 14 → i ≠ 15 → i ≠ 16 → i ≠ 17 → i ≠ 18 → σ0 i = σ0 i := fun _ _ _ _ _ _ _ _ _ _ _ _ _ _ _ _ => rfl
  unfold f_X6_start at hf
  refine lv_iload_n hx hb dX6_start_0 rfl (lv_at hl 1 rfl) ?_
  refine lv_iconst (v := zI 1) hx hb dX6_start_1 (by decide +kernel) ?_
  refine lv_iconst (v := zI 4) hx hb dX6_start_2 (by decide +kernel) ?_
  obtain ⟨r1, k2, hf⟩ := zb1_some hf
  refine zcSi (As := [.int (zI p1), .int (zI 1), .int (zI 4)]) (rest := []) hx hb hml hown hts hl.1 hK hH hA (c_X6_isWithin hI hN   k2) zk_t2_87 zk_t2_88 zk_t1_1 zk_t2_89 hd_X6_isWithin rfl ⟨rfl, rfl, Nat.le_of_ble_eq_true rfl, Nat.le_of_ble_eq_true rfl⟩ ⟨by decide, by decide⟩ rfl (Nat.le_of_ble_eq_true rfl) dX6_start_3 (fun q4 σ3 Hσ3 lσ3 hp hH => ?_)
  obtain ⟨hr1, hs1⟩ := hp; subst hr1; rw [hs1] at hH
  obtain ⟨k5, hf⟩ := zck_some hf
  refine lz_if_ne (tgt := 19) hx hb k5 dX6_start_6 (by decide) (fun c6 => ?_) (fun c6 => ?_)
  · replace hf := (if_neg c6).symm.trans hf
    refine lv_iload_n hx hb dX6_start_19 rfl (lv_at hl 2 rfl) ?_
    refine lv_iconst (v := zI 0) hx hb dX6_start_20 (by decide +kernel) ?_
    refine lv_bipush (v := zI 20) hx hb dX6_start_21 (by decide +kernel) ?_
    obtain ⟨r7, k8, hf⟩ := zb1_some hf
    refine zcSi (As := [.int (zI p2), .int (zI 0), .int (zI 20)]) (rest := []) hx hb hml hown hts hl.1 hK hH hA (c_X6_isWithin hI hN   k8) zk_t2_87 zk_t2_88 zk_t1_1 zk_t2_89 hd_X6_isWithin rfl ⟨rfl, rfl, Nat.le_of_ble_eq_true rfl, Nat.le_of_ble_eq_true rfl⟩ ⟨by decide, by decide⟩ rfl (Nat.le_of_ble_eq_true rfl) dX6_start_23 (fun q10 σ9 Hσ9 lσ9 hp hH => ?_)
    obtain ⟨hr1, hs1⟩ := hp; subst hr1; rw [hs1] at hH
    obtain ⟨k11, hf⟩ := zck_some hf
    refine lz_if_ne (tgt := 39) hx hb k11 dX6_start_26 (by decide) (fun c12 => ?_) (fun c12 => ?_)
    · replace hf := (if_neg c12).symm.trans hf
      refine lv_aload_n hx hb dX6_start_39 rfl (lv_at hl 0 rfl) ?_
      obtain ⟨a13, u14, u15, u16, u17, u18, u19, u20, a21, a22, a23, a24, a25, a26, u27, u28, u29, u30, u31, k32, hf⟩ := zb19_some hf
      refine zcVv (C := RX6) (As := []) (rest := []) hx hb hml hown hts hl.1 hK hH hA (c_X6_refresh hI hN hNF  h_sp h_sp_fields h_sp_waiting h_pl h_pl_kinds h_pl_differencesX h_pl_differencesY h_pl_owners h_pl_kindCounts h_pl_threads h_FF k32) zk_t1_193 zk_t1_195 zk_s1_0 zk_t1_1 zk_t1_196 hd_X6_refresh rfl ⟨rfl, rfl, Nat.le_of_ble_eq_true rfl, Nat.le_of_ble_eq_true rfl⟩ ⟨by decide, by decide⟩ hk_sp h_sp rfl rfl rfl (Nat.le_of_ble_eq_true rfl) dX6_start_40 (fun σ33 Hσ33 lσ33 hp hH => ?_)
      obtain ⟨h_sp, h_sp_waiting, h_pl, h_pl_kinds, h_pl_differencesX, h_pl_differencesY, h_pl_owners, h_pl_kindCounts, h_pl_threads, h_FF, hn⟩ := hp
      have h_sp_fields := (hn 1 (by decide) (by decide) (by decide) (by decide) (by decide) (by decide) (by decide) (by decide) (by decide) (by decide)).trans h_sp_fields
      have h_ma := (hn 14 (by decide) (by decide) (by decide) (by decide) (by decide) (by decide) (by decide) (by decide) (by decide) (by decide)).trans h_ma
      have h_ma_stitchesAhead := (hn 15 (by decide) (by decide) (by decide) (by decide) (by decide) (by decide) (by decide) (by decide) (by decide) (by decide)).trans h_ma_stitchesAhead
      have h_ma_broken := (hn 16 (by decide) (by decide) (by decide) (by decide) (by decide) (by decide) (by decide) (by decide) (by decide) (by decide)).trans h_ma_broken
      have h_ma_brokeAt := (hn 17 (by decide) (by decide) (by decide) (by decide) (by decide) (by decide) (by decide) (by decide) (by decide) (by decide)).trans h_ma_brokeAt
      have h_ma_stitches := (hn 18 (by decide) (by decide) (by decide) (by decide) (by decide) (by decide) (by decide) (by decide) (by decide) (by decide)).trans h_ma_stitches
      have hbg : ∀ i : Nat, i < 19 → i ≠ 0 → i ≠ 2 → i ≠ 3 → i ≠ 4 → i ≠ 5 → i ≠ 6 → i ≠ 7 → i ≠ 8 → i ≠ 9 → i ≠ 14 → i ≠ 15 → i ≠ 16 → i ≠ 17 → i ≠ 18 → σ33 i = σ0 i := fun i h46 a0 a1 a2 a3 a4 a5 a6 a7 a8 a9 a10 a11 a12 a13 => (hn i h46 a0 a1 a2 a3 a4 a5 a6 a7 a8).trans (hbg i h46 a0 a1 a2 a3 a4 a5 a6 a7 a8 a9 a10 a11 a12 a13)
      refine lv_aload_n hx hb dX6_start_43 rfl (lv_at hl 0 rfl) ?_
      refine zget hx hb inlX6 rfl 5 rfl zk_t1_154 hts hown hK hH hk_sp h_sp rfl dX6_start_44 ?_
      refine lv_aload_n hx hb dX6_start_47 rfl (lv_at hl 0 rfl) ?_
      refine zget hx hb inlX6 rfl 2 rfl zk_t1_151 hts hown hK hH hk_sp h_sp rfl dX6_start_48 ?_
      refine lv_iload_n hx hb dX6_start_51 rfl (lv_at hl 1 rfl) ?_
      refine lv_iload_n hx hb dX6_start_52 rfl (lv_at hl 2 rfl) ?_
      obtain ⟨a34, a35, a36, a37, u38, u39, u40, u41, k42, hf⟩ := zb8_some hf
      refine zcVv (C := RX1) (As := [.ref (ad 3), .int (zI p1), .int (zI p2)]) (rest := []) hx hb hml hown hts hl.1 hK hH hA (c_X1_begin hI hN  h_pl h_pl_kinds h_pl_differencesX h_pl_differencesY h_pl_owners h_ma h_ma_stitchesAhead h_ma_broken h_ma_brokeAt h_ma_stitches k42) zk_t4_8 zk_t4_9 zk_t4_10 zk_t1_5 zk_t4_11 hd_X1_begin rfl ⟨rfl, rfl, Nat.le_of_ble_eq_true rfl, Nat.le_of_ble_eq_true rfl⟩ ⟨by decide, by decide⟩ hk_ma h_ma rfl rfl rfl (Nat.le_of_ble_eq_true rfl) dX6_start_53 (fun σ43 Hσ43 lσ43 hp hH => ?_)
      obtain ⟨h_ma, h_ma_stitchesAhead, h_ma_broken, h_ma_brokeAt, h_ma_stitches, hn⟩ := hp
      have h_sp := (hn 0 (by decide) (by decide) (by decide) (by decide) (by decide)).trans h_sp
      have h_sp_fields := (hn 1 (by decide) (by decide) (by decide) (by decide) (by decide)).trans h_sp_fields
      have h_sp_waiting := (hn 2 (by decide) (by decide) (by decide) (by decide) (by decide)).trans h_sp_waiting
      have h_pl := (hn 3 (by decide) (by decide) (by decide) (by decide) (by decide)).trans h_pl
      have h_pl_kinds := (hn 4 (by decide) (by decide) (by decide) (by decide) (by decide)).trans h_pl_kinds
      have h_pl_differencesX := (hn 5 (by decide) (by decide) (by decide) (by decide) (by decide)).trans h_pl_differencesX
      have h_pl_differencesY := (hn 6 (by decide) (by decide) (by decide) (by decide) (by decide)).trans h_pl_differencesY
      have h_pl_owners := (hn 7 (by decide) (by decide) (by decide) (by decide) (by decide)).trans h_pl_owners
      have h_pl_kindCounts := (hn 8 (by decide) (by decide) (by decide) (by decide) (by decide)).trans h_pl_kindCounts
      have h_pl_threads := (hn 9 (by decide) (by decide) (by decide) (by decide) (by decide)).trans h_pl_threads
      have h_FF := zFF_keep (fun i hi => hn i (by omega) (by omega) (by omega) (by omega) (by omega)) h_FF
      have hbg : ∀ i : Nat, i < 19 → i ≠ 0 → i ≠ 2 → i ≠ 3 → i ≠ 4 → i ≠ 5 → i ≠ 6 → i ≠ 7 → i ≠ 8 → i ≠ 9 → i ≠ 14 → i ≠ 15 → i ≠ 16 → i ≠ 17 → i ≠ 18 → σ43 i = σ0 i := fun i h46 a0 a1 a2 a3 a4 a5 a6 a7 a8 a9 a10 a11 a12 a13 => (hn i a9 a10 a11 a12 a13).trans (hbg i h46 a0 a1 a2 a3 a4 a5 a6 a7 a8 a9 a10 a11 a12 a13)
      cases hf
      exact zxretv hx hb hr hlocks hQ hH ⟨rfl, h_sp, h_sp_waiting, h_pl, h_pl_kinds, h_pl_differencesX, h_pl_differencesY, h_pl_owners, h_pl_kindCounts, h_pl_threads, h_ma, h_ma_stitchesAhead, h_ma_broken, h_ma_brokeAt, h_ma_stitches, h_FF, hbg⟩ ⟨by decide, by decide⟩ dX6_start_56
    · replace hf := (if_pos c12).symm.trans hf
      cases hf
      exact zthr_a hx hb hst hQ hnh hlocks hown hts zk_t2_158 zk_t1_11 hX (is := 202) (text := "late is 0 to 20") (by decide +kernel) (hl.1.trans hml.symm) hH ⟨h_sp, h_sp_waiting, h_pl, h_pl_kinds, h_pl_differencesX, h_pl_differencesY, h_pl_owners, h_pl_kindCounts, h_pl_threads, h_ma, h_ma_stitchesAhead, h_ma_broken, h_ma_brokeAt, h_ma_stitches, h_FF, hbg⟩ ⟨by decide, by decide, by decide, by decide⟩ ⟨by decide, by decide⟩ dX6_start_29 dX6_start_32 dX6_start_33 dX6_start_35 dX6_start_38
  · replace hf := (if_pos c6).symm.trans hf
    cases hf
    exact zthr_a hx hb hst hQ hnh hlocks hown hts zk_t2_158 zk_t1_11 hX (is := 200) (text := "heads are 1 to 4") (by decide +kernel) (hl.1.trans hml.symm) hH ⟨h_sp, h_sp_waiting, h_pl, h_pl_kinds, h_pl_differencesX, h_pl_differencesY, h_pl_owners, h_pl_kindCounts, h_pl_threads, h_ma, h_ma_stitchesAhead, h_ma_broken, h_ma_brokeAt, h_ma_stitches, h_FF, hbg⟩ ⟨by decide, by decide, by decide, by decide⟩ ⟨by decide, by decide⟩ dX6_start_9 dX6_start_12 dX6_start_13 dX6_start_15 dX6_start_18
abbrev rmX6_run : Room := { frames := 6, cells := 1, slots := 6, locals := 92 }
theorem hd_X6_run : yX6_run.cls = RX6 ∧ yX6_run.cls ≠ "java/lang/invoke/MethodHandle" ∧ yX6_run.cls ≠ "java/lang/invoke/VarHandle" ∧ (parseMethodDescriptor yX6_run.desc).map (fun d => d.parameters.length) = some 1 := by decide +kernel
set_option maxHeartbeats 4000000 in
set_option maxRecDepth 100000 in
theorem c_X6_run {l : Launch} {D : va_G} {cI cZ cF cL cD : ClassId} {ad : Nat → Nat} {N : Nat} (hI : ∀ i j, i < N → j < N → ad i = ad j → i = j) (hN : 19 ≤ N) (hst : l.stackTraces = false) {σ0 : Nat → va_E} {sz : Nat} {sp_fieldCount : Int} {sp_trimBound : Int} {sp_planned : Int} {ma_stitchesAhead : Int → Int} {ma_broken : Int → Int} {ma_brokeAt : Int → Int} {ma_stitches : Int → Int} {ma_headCount : Int} {ma_late : Int} {ma_commandCount : Int} {ma_place : Int} {p1 : Int} {Rt : Int} {R0 : Int} {R_ma_stitches : Int → Int} {R_ma_place : Int} (h_sp : σ0 0 = oC_sp ad sp_fieldCount sp_trimBound sp_planned) (h_ma : σ0 14 = oC_ma ad ma_headCount ma_late ma_commandCount ma_place) (h_ma_stitchesAhead : σ0 15 = .inl (cI, 16642, .inl (zA ma_stitchesAhead))) (h_ma_broken : σ0 16 = .inl (cZ, 4, .inl (zA ma_broken))) (h_ma_brokeAt : σ0 17 = .inl (cI, 4, .inl (zA ma_brokeAt))) (h_ma_stitches : σ0 18 = .inl (cI, 4, .inl (zA ma_stitches))) (hf : f_X6_run ma_stitchesAhead ma_broken ma_brokeAt ma_stitches ma_headCount ma_late ma_commandCount ma_place p1 = some (Rt, R0, R_ma_stitches, R_ma_place)) :
    vx_Met l yX6_run (Cond.code yX6_run cX6_run 2 (some .int) :: wsL_law) rmX6_run (zPreX D ad N (zT cI cZ cF cL cD) σ0 sz [.ref (ad 0), .int (zI p1)]) (zQi D ad N sz (fun r σ' => Rt = 0 ∧ r = zI R0 ∧ σ' 14 = oC_ma ad ma_headCount ma_late ma_commandCount R_ma_place ∧ σ' 18 = .inl (cI, 4, .inl (zA R_ma_stitches)) ∧ ∀ i : Nat, i ≠ 14 → i ≠ 18 → σ' i = σ0 i)) (zXC D ad N sz Rt (fun σ' => σ' 14 = oC_ma ad ma_headCount ma_late ma_commandCount R_ma_place ∧ σ' 18 = .inl (cI, 4, .inl (zA R_ma_stitches)) ∧ ∀ i : Nat, i ≠ 14 → i ≠ 18 → σ' i = σ0 i)) 1 6 (zFr ad N sz) := by
  refine zMetX hI (by decide) (Nat.le_of_ble_eq_true rfl) ?_
  intro p e s m args below meth c Q hx hb hr hlocks hml hown hts hnh hK hX hsz hQ hH hA ls hl
  subst hsz
  have hk_sp : 0 < N := by omega
  have hk_ma : 14 < N := by omega
  have hk_ma_stitchesAhead : 15 < N := by omega
  have hk_ma_broken : 16 < N := by omega
  have hk_ma_brokeAt : 17 < N := by omega
  have hk_ma_stitches : 18 < N := by omega
  have hl : lv_has ls 2 [(0, .ref (ad 0)), (1, .int (zI p1))] := hl
  have hbg : ∀ i : Nat, i ≠ 14 → i ≠ 18 → σ0 i = σ0 i := fun _ _ _ => rfl
  unfold f_X6_run at hf
  refine lv_iload_n hx hb dX6_run_0 rfl (lv_at hl 1 rfl) ?_
  refine lv_iconst (v := zI 1) hx hb dX6_run_1 (by decide +kernel) ?_
  refine lv_sipush (v := zI 1000) hx hb dX6_run_2 (by decide +kernel) ?_
  obtain ⟨r1, k2, hf⟩ := zb1_some hf
  refine zcSi (As := [.int (zI p1), .int (zI 1), .int (zI 1000)]) (rest := []) hx hb hml hown hts hl.1 hK hH hA (c_X6_isWithin hI hN   k2) zk_t2_87 zk_t2_88 zk_t1_1 zk_t2_89 hd_X6_isWithin rfl ⟨rfl, rfl, Nat.le_of_ble_eq_true rfl, Nat.le_of_ble_eq_true rfl⟩ ⟨by decide, by decide⟩ rfl (Nat.le_of_ble_eq_true rfl) dX6_run_5 (fun q4 σ3 Hσ3 lσ3 hp hH => ?_)
  obtain ⟨hr1, hs1⟩ := hp; subst hr1; rw [hs1] at hH
  obtain ⟨k5, hf⟩ := zck_some hf
  refine lz_if_ne (tgt := 21) hx hb k5 dX6_run_8 (by decide) (fun c6 => ?_) (fun c6 => ?_)
  · replace hf := (if_neg c6).symm.trans hf
    refine lv_aload_n hx hb dX6_run_21 rfl (lv_at hl 0 rfl) ?_
    refine zget hx hb inlX6 rfl 5 rfl zk_t1_154 hts hown hK hH hk_sp h_sp rfl dX6_run_22 ?_
    refine zget hx hb inlX1 rfl 4 rfl zk_t1_128 hts hown hK hH hk_ma h_ma rfl dX6_run_25 ?_
    obtain ⟨k7, hf⟩ := zck_some hf
    refine lz_if_ne (tgt := 41) hx hb k7 dX6_run_28 (by decide) (fun c8 => ?_) (fun c8 => ?_)
    · replace hf := (if_neg c8).symm.trans hf
      refine lv_aload_n hx hb dX6_run_41 rfl (lv_at hl 0 rfl) ?_
      refine zget hx hb inlX6 rfl 5 rfl zk_t1_154 hts hown hK hH hk_sp h_sp rfl dX6_run_42 ?_
      refine lv_iload_n hx hb dX6_run_45 rfl (lv_at hl 1 rfl) ?_
      obtain ⟨r9, a10, u11, k12, hf⟩ := zb3_some hf
      refine zcVi (C := RX1) (As := [.int (zI p1)]) (rest := []) hx hb hml hown hts hl.1 hK hH hA (c_X1_advance hI hN  h_ma h_ma_stitchesAhead h_ma_broken h_ma_brokeAt h_ma_stitches k12) zk_t4_19 zk_t4_20 zk_t4_21 zk_t1_5 zk_t4_22 hd_X1_advance rfl ⟨rfl, rfl, Nat.le_of_ble_eq_true rfl, Nat.le_of_ble_eq_true rfl⟩ ⟨by decide, by decide⟩ hk_ma h_ma rfl rfl rfl (Nat.le_of_ble_eq_true rfl) dX6_run_46 (fun q14 σ13 Hσ13 lσ13 hp hH => ?_)
      obtain ⟨hr1, h_ma, h_ma_stitches, hn⟩ := hp
      subst hr1
      have h_sp := (hn 0 (by decide) (by decide)).trans h_sp
      have h_ma_stitchesAhead := (hn 15 (by decide) (by decide)).trans h_ma_stitchesAhead
      have h_ma_broken := (hn 16 (by decide) (by decide)).trans h_ma_broken
      have h_ma_brokeAt := (hn 17 (by decide) (by decide)).trans h_ma_brokeAt
      have hbg : ∀ i : Nat, i ≠ 14 → i ≠ 18 → σ13 i = σ0 i := fun i a0 a1 => (hn i a0 a1).trans (hbg i a0 a1)
      cases hf
      exact zxreti hx hb hr hlocks hQ hH ⟨rfl, rfl, h_ma, h_ma_stitches, hbg⟩ ⟨by decide, by decide⟩ dX6_run_49
    · replace hf := (if_pos c8).symm.trans hf
      cases hf
      exact zthr_s hx hb hst hQ hnh hlocks hown hts zk_t3_46 zk_t1_12 hX (is := 213) (text := "there is no machine") (by decide +kernel) (hl.1.trans hml.symm) hH ⟨h_ma, h_ma_stitches, hbg⟩ ⟨by decide, by decide, by decide, by decide⟩ ⟨by decide, by decide⟩ dX6_run_31 dX6_run_34 dX6_run_35 dX6_run_37 dX6_run_40
  · replace hf := (if_pos c6).symm.trans hf
    cases hf
    exact zthr_a hx hb hst hQ hnh hlocks hown hts zk_t2_158 zk_t1_11 hX (is := 208) (text := "commands are 1 to 1000") (by decide +kernel) (hl.1.trans hml.symm) hH ⟨h_ma, h_ma_stitches, hbg⟩ ⟨by decide, by decide, by decide, by decide⟩ ⟨by decide, by decide⟩ dX6_run_11 dX6_run_14 dX6_run_15 dX6_run_17 dX6_run_20
abbrev rmX6_breaks : Room := { frames := 6, cells := 1, slots := 6, locals := 92 }
theorem hd_X6_breaks : yX6_breaks.cls = RX6 ∧ yX6_breaks.cls ≠ "java/lang/invoke/MethodHandle" ∧ yX6_breaks.cls ≠ "java/lang/invoke/VarHandle" ∧ (parseMethodDescriptor yX6_breaks.desc).map (fun d => d.parameters.length) = some 1 := by decide +kernel
set_option maxHeartbeats 4000000 in
set_option maxRecDepth 100000 in
theorem c_X6_breaks {l : Launch} {D : va_G} {cI cZ cF cL cD : ClassId} {ad : Nat → Nat} {N : Nat} (hI : ∀ i j, i < N → j < N → ad i = ad j → i = j) (hN : 19 ≤ N) (hst : l.stackTraces = false) {σ0 : Nat → va_E} {sz : Nat} {sp_fieldCount : Int} {sp_trimBound : Int} {sp_planned : Int} {ma_broken : Int → Int} {ma_brokeAt : Int → Int} {ma_stitches : Int → Int} {ma_headCount : Int} {ma_late : Int} {ma_commandCount : Int} {ma_place : Int} {p1 : Int} {Rt : Int} {R_ma_broken : Int → Int} {R_ma_brokeAt : Int → Int} (h_sp : σ0 0 = oC_sp ad sp_fieldCount sp_trimBound sp_planned) (h_ma : σ0 14 = oC_ma ad ma_headCount ma_late ma_commandCount ma_place) (h_ma_broken : σ0 16 = .inl (cZ, 4, .inl (zA ma_broken))) (h_ma_brokeAt : σ0 17 = .inl (cI, 4, .inl (zA ma_brokeAt))) (h_ma_stitches : σ0 18 = .inl (cI, 4, .inl (zA ma_stitches))) (hf : f_X6_breaks ma_broken ma_brokeAt ma_headCount ma_place p1 = some (Rt, R_ma_broken, R_ma_brokeAt)) :
    vx_Met l yX6_breaks (Cond.code yX6_breaks cX6_breaks 2 none :: wsL_law) rmX6_breaks (zPreX D ad N (zT cI cZ cF cL cD) σ0 sz [.ref (ad 0), .int (zI p1)]) (zQv D ad N sz (fun σ' => Rt = 0 ∧ σ' 16 = .inl (cZ, 4, .inl (zA R_ma_broken)) ∧ σ' 17 = .inl (cI, 4, .inl (zA R_ma_brokeAt)) ∧ ∀ i : Nat, i ≠ 16 → i ≠ 17 → σ' i = σ0 i)) (zXC D ad N sz Rt (fun σ' => σ' 16 = .inl (cZ, 4, .inl (zA R_ma_broken)) ∧ σ' 17 = .inl (cI, 4, .inl (zA R_ma_brokeAt)) ∧ ∀ i : Nat, i ≠ 16 → i ≠ 17 → σ' i = σ0 i)) 1 6 (zFr ad N sz) := by
  refine zMetX hI (by decide) (Nat.le_of_ble_eq_true rfl) ?_
  intro p e s m args below meth c Q hx hb hr hlocks hml hown hts hnh hK hX hsz hQ hH hA ls hl
  subst hsz
  have hk_sp : 0 < N := by omega
  have hk_ma : 14 < N := by omega
  have hk_ma_broken : 16 < N := by omega
  have hk_ma_brokeAt : 17 < N := by omega
  have hk_ma_stitches : 18 < N := by omega
  have hl : lv_has ls 2 [(0, .ref (ad 0)), (1, .int (zI p1))] := hl
  have hbg : ∀ i : Nat, i ≠ 16 → i ≠ 17 → σ0 i = σ0 i := fun _ _ _ => rfl
  unfold f_X6_breaks at hf
  refine lv_aload_n hx hb dX6_breaks_0 rfl (lv_at hl 0 rfl) ?_
  refine zget hx hb inlX6 rfl 5 rfl zk_t1_154 hts hown hK hH hk_sp h_sp rfl dX6_breaks_1 ?_
  refine lv_iload_n hx hb dX6_breaks_4 rfl (lv_at hl 1 rfl) ?_
  obtain ⟨r1, k2, hf⟩ := zb1_some hf
  refine zcVi (C := RX1) (As := [.int (zI p1)]) (rest := []) hx hb hml hown hts hl.1 hK hH hA (c_X1_has hI hN  h_ma h_ma_broken h_ma_brokeAt h_ma_stitches k2) zk_t2_218 zk_t2_219 zk_t2_220 zk_t1_5 zk_t2_221 hd_X1_has rfl ⟨rfl, rfl, Nat.le_of_ble_eq_true rfl, Nat.le_of_ble_eq_true rfl⟩ ⟨by decide, by decide⟩ hk_ma h_ma rfl rfl rfl (Nat.le_of_ble_eq_true rfl) dX6_breaks_5 (fun q4 σ3 Hσ3 lσ3 hp hH => ?_)
  obtain ⟨hr1, hs1⟩ := hp; subst hr1; rw [hs1] at hH
  obtain ⟨k5, hf⟩ := zck_some hf
  refine lz_if_ne (tgt := 21) hx hb k5 dX6_breaks_8 (by decide) (fun c6 => ?_) (fun c6 => ?_)
  · replace hf := (if_neg c6).symm.trans hf
    refine lv_aload_n hx hb dX6_breaks_21 rfl (lv_at hl 0 rfl) ?_
    refine zget hx hb inlX6 rfl 5 rfl zk_t1_154 hts hown hK hH hk_sp h_sp rfl dX6_breaks_22 ?_
    refine zget hx hb inlX1 rfl 1 rfl zk_t1_123 hts hown hK hH hk_ma h_ma rfl dX6_breaks_25 ?_
    refine lv_iload_n hx hb dX6_breaks_28 rfl (lv_at hl 1 rfl) ?_
    obtain ⟨k7, hf⟩ := zck_some hf
    refine zzald hx hb hK hH hk_ma_broken 1 h_ma_broken rfl k7 rfl dX6_breaks_29 ?_
    obtain ⟨k8, hf⟩ := zck_some hf
    refine lz_if_eq (tgt := 43) hx hb k8 dX6_breaks_30 (by decide) (fun c9 => ?_) (fun c9 => ?_)
    · replace hf := (if_pos c9).symm.trans hf
      refine lv_aload_n hx hb dX6_breaks_43 rfl (lv_at hl 0 rfl) ?_
      refine zget hx hb inlX6 rfl 5 rfl zk_t1_154 hts hown hK hH hk_sp h_sp rfl dX6_breaks_44 ?_
      refine lv_iload_n hx hb dX6_breaks_47 rfl (lv_at hl 1 rfl) ?_
      obtain ⟨a10, a11, k12, hf⟩ := zb2_some hf
      refine zcVv (C := RX1) (As := [.int (zI p1)]) (rest := []) hx hb hml hown hts hl.1 hK hH hA (c_X1_tear hI hN  h_ma h_ma_broken h_ma_brokeAt h_ma_stitches k12) zk_t4_45 zk_t4_46 zk_t4_47 zk_t1_5 zk_t4_48 hd_X1_tear rfl ⟨rfl, rfl, Nat.le_of_ble_eq_true rfl, Nat.le_of_ble_eq_true rfl⟩ ⟨by decide, by decide⟩ hk_ma h_ma rfl rfl rfl (Nat.le_of_ble_eq_true rfl) dX6_breaks_48 (fun σ13 Hσ13 lσ13 hp hH => ?_)
      obtain ⟨h_ma_broken, h_ma_brokeAt, hn⟩ := hp
      have h_sp := (hn 0 (by decide) (by decide)).trans h_sp
      have h_ma := (hn 14 (by decide) (by decide)).trans h_ma
      have h_ma_stitches := (hn 18 (by decide) (by decide)).trans h_ma_stitches
      have hbg : ∀ i : Nat, i ≠ 16 → i ≠ 17 → σ13 i = σ0 i := fun i a0 a1 => (hn i a0 a1).trans (hbg i a0 a1)
      cases hf
      exact zxretv hx hb hr hlocks hQ hH ⟨rfl, h_ma_broken, h_ma_brokeAt, hbg⟩ ⟨by decide, by decide⟩ dX6_breaks_51
    · replace hf := (if_neg c9).symm.trans hf
      cases hf
      exact zthr_s hx hb hst hQ hnh hlocks hown hts zk_t3_46 zk_t1_12 hX (is := 225) (text := "the thread is broken") (by decide +kernel) (hl.1.trans hml.symm) hH ⟨h_ma_broken, h_ma_brokeAt, hbg⟩ ⟨by decide, by decide, by decide, by decide⟩ ⟨by decide, by decide⟩ dX6_breaks_33 dX6_breaks_36 dX6_breaks_37 dX6_breaks_39 dX6_breaks_42
  · replace hf := (if_pos c6).symm.trans hf
    cases hf
    exact zthr_i hx hb hst hQ hnh hlocks hown hts zk_t2_90 zk_t1_10 hX (is := 220) (text := "there is no such head") (by decide +kernel) (hl.1.trans hml.symm) hH ⟨h_ma_broken, h_ma_brokeAt, hbg⟩ ⟨by decide, by decide, by decide, by decide⟩ ⟨by decide, by decide⟩ dX6_breaks_11 dX6_breaks_14 dX6_breaks_15 dX6_breaks_17 dX6_breaks_20
abbrev rmX6_mend : Room := { frames := 6, cells := 1, slots := 6, locals := 92 }
theorem hd_X6_mend : yX6_mend.cls = RX6 ∧ yX6_mend.cls ≠ "java/lang/invoke/MethodHandle" ∧ yX6_mend.cls ≠ "java/lang/invoke/VarHandle" ∧ (parseMethodDescriptor yX6_mend.desc).map (fun d => d.parameters.length) = some 1 := by decide +kernel
set_option maxHeartbeats 4000000 in
set_option maxRecDepth 100000 in
theorem c_X6_mend {l : Launch} {D : va_G} {cI cZ cF cL cD : ClassId} {ad : Nat → Nat} {N : Nat} (hI : ∀ i j, i < N → j < N → ad i = ad j → i = j) (hN : 19 ≤ N) (hst : l.stackTraces = false) {σ0 : Nat → va_E} {sz : Nat} {sp_fieldCount : Int} {sp_trimBound : Int} {sp_planned : Int} {ma_stitchesAhead : Int → Int} {ma_broken : Int → Int} {ma_brokeAt : Int → Int} {ma_stitches : Int → Int} {ma_headCount : Int} {ma_late : Int} {ma_commandCount : Int} {ma_place : Int} {p1 : Int} {Rt : Int} {R0 : Int} {R_ma_broken : Int → Int} {R_ma_stitches : Int → Int} (h_sp : σ0 0 = oC_sp ad sp_fieldCount sp_trimBound sp_planned) (h_ma : σ0 14 = oC_ma ad ma_headCount ma_late ma_commandCount ma_place) (h_ma_stitchesAhead : σ0 15 = .inl (cI, 16642, .inl (zA ma_stitchesAhead))) (h_ma_broken : σ0 16 = .inl (cZ, 4, .inl (zA ma_broken))) (h_ma_brokeAt : σ0 17 = .inl (cI, 4, .inl (zA ma_brokeAt))) (h_ma_stitches : σ0 18 = .inl (cI, 4, .inl (zA ma_stitches))) (hf : f_X6_mend ma_stitchesAhead ma_broken ma_brokeAt ma_stitches ma_headCount ma_late ma_commandCount ma_place p1 = some (Rt, R0, R_ma_broken, R_ma_stitches)) :
    vx_Met l yX6_mend (Cond.code yX6_mend cX6_mend 2 (some .int) :: wsL_law) rmX6_mend (zPreX D ad N (zT cI cZ cF cL cD) σ0 sz [.ref (ad 0), .int (zI p1)]) (zQi D ad N sz (fun r σ' => Rt = 0 ∧ r = zI R0 ∧ σ' 16 = .inl (cZ, 4, .inl (zA R_ma_broken)) ∧ σ' 18 = .inl (cI, 4, .inl (zA R_ma_stitches)) ∧ ∀ i : Nat, i ≠ 16 → i ≠ 18 → σ' i = σ0 i)) (zXC D ad N sz Rt (fun σ' => σ' 16 = .inl (cZ, 4, .inl (zA R_ma_broken)) ∧ σ' 18 = .inl (cI, 4, .inl (zA R_ma_stitches)) ∧ ∀ i : Nat, i ≠ 16 → i ≠ 18 → σ' i = σ0 i)) 1 6 (zFr ad N sz) := by
  refine zMetX hI (by decide) (Nat.le_of_ble_eq_true rfl) ?_
  intro p e s m args below meth c Q hx hb hr hlocks hml hown hts hnh hK hX hsz hQ hH hA ls hl
  subst hsz
  have hk_sp : 0 < N := by omega
  have hk_ma : 14 < N := by omega
  have hk_ma_stitchesAhead : 15 < N := by omega
  have hk_ma_broken : 16 < N := by omega
  have hk_ma_brokeAt : 17 < N := by omega
  have hk_ma_stitches : 18 < N := by omega
  have hl : lv_has ls 2 [(0, .ref (ad 0)), (1, .int (zI p1))] := hl
  have hbg : ∀ i : Nat, i ≠ 16 → i ≠ 18 → σ0 i = σ0 i := fun _ _ _ => rfl
  unfold f_X6_mend at hf
  refine lv_aload_n hx hb dX6_mend_0 rfl (lv_at hl 0 rfl) ?_
  refine zget hx hb inlX6 rfl 5 rfl zk_t1_154 hts hown hK hH hk_sp h_sp rfl dX6_mend_1 ?_
  refine lv_iload_n hx hb dX6_mend_4 rfl (lv_at hl 1 rfl) ?_
  obtain ⟨r1, k2, hf⟩ := zb1_some hf
  refine zcVi (C := RX1) (As := [.int (zI p1)]) (rest := []) hx hb hml hown hts hl.1 hK hH hA (c_X1_has hI hN  h_ma h_ma_broken h_ma_brokeAt h_ma_stitches k2) zk_t2_218 zk_t2_219 zk_t2_220 zk_t1_5 zk_t2_221 hd_X1_has rfl ⟨rfl, rfl, Nat.le_of_ble_eq_true rfl, Nat.le_of_ble_eq_true rfl⟩ ⟨by decide, by decide⟩ hk_ma h_ma rfl rfl rfl (Nat.le_of_ble_eq_true rfl) dX6_mend_5 (fun q4 σ3 Hσ3 lσ3 hp hH => ?_)
  obtain ⟨hr1, hs1⟩ := hp; subst hr1; rw [hs1] at hH
  obtain ⟨k5, hf⟩ := zck_some hf
  refine lz_if_ne (tgt := 21) hx hb k5 dX6_mend_8 (by decide) (fun c6 => ?_) (fun c6 => ?_)
  · replace hf := (if_neg c6).symm.trans hf
    refine lv_aload_n hx hb dX6_mend_21 rfl (lv_at hl 0 rfl) ?_
    refine zget hx hb inlX6 rfl 5 rfl zk_t1_154 hts hown hK hH hk_sp h_sp rfl dX6_mend_22 ?_
    refine lv_iload_n hx hb dX6_mend_25 rfl (lv_at hl 1 rfl) ?_
    obtain ⟨r7, k8, hf⟩ := zb1_some hf
    refine zcVi (C := RX1) (As := [.int (zI p1)]) (rest := []) hx hb hml hown hts hl.1 hK hH hA (c_X1_isSeen hI hN  h_ma h_ma_broken h_ma_brokeAt h_ma_stitches k8) zk_t4_53 zk_t4_28 zk_t4_29 zk_t1_5 zk_t4_30 hd_X1_isSeen rfl ⟨rfl, rfl, Nat.le_of_ble_eq_true rfl, Nat.le_of_ble_eq_true rfl⟩ ⟨by decide, by decide⟩ hk_ma h_ma rfl rfl rfl (Nat.le_of_ble_eq_true rfl) dX6_mend_26 (fun q10 σ9 Hσ9 lσ9 hp hH => ?_)
    obtain ⟨hr1, hs1⟩ := hp; subst hr1; rw [hs1] at hH
    obtain ⟨k11, hf⟩ := zck_some hf
    refine lz_if_ne (tgt := 42) hx hb k11 dX6_mend_29 (by decide) (fun c12 => ?_) (fun c12 => ?_)
    · replace hf := (if_neg c12).symm.trans hf
      refine lv_aload_n hx hb dX6_mend_42 rfl (lv_at hl 0 rfl) ?_
      refine zget hx hb inlX6 rfl 5 rfl zk_t1_154 hts hown hK hH hk_sp h_sp rfl dX6_mend_43 ?_
      refine lv_iload_n hx hb dX6_mend_46 rfl (lv_at hl 1 rfl) ?_
      obtain ⟨r13, a14, a15, k16, hf⟩ := zb3_some hf
      refine zcVi (C := RX1) (As := [.int (zI p1)]) (rest := []) hx hb hml hown hts hl.1 hK hH hA (c_X1_repair hI hN  h_ma h_ma_stitchesAhead h_ma_broken h_ma_brokeAt h_ma_stitches k16) zk_t4_55 zk_t4_56 zk_t4_57 zk_t1_5 zk_t4_58 hd_X1_repair rfl ⟨rfl, rfl, Nat.le_of_ble_eq_true rfl, Nat.le_of_ble_eq_true rfl⟩ ⟨by decide, by decide⟩ hk_ma h_ma rfl rfl rfl (Nat.le_of_ble_eq_true rfl) dX6_mend_47 (fun q18 σ17 Hσ17 lσ17 hp hH => ?_)
      obtain ⟨hr1, h_ma_broken, h_ma_stitches, hn⟩ := hp
      subst hr1
      have h_sp := (hn 0 (by decide) (by decide)).trans h_sp
      have h_ma := (hn 14 (by decide) (by decide)).trans h_ma
      have h_ma_stitchesAhead := (hn 15 (by decide) (by decide)).trans h_ma_stitchesAhead
      have h_ma_brokeAt := (hn 17 (by decide) (by decide)).trans h_ma_brokeAt
      have hbg : ∀ i : Nat, i ≠ 16 → i ≠ 18 → σ17 i = σ0 i := fun i a0 a1 => (hn i a0 a1).trans (hbg i a0 a1)
      cases hf
      exact zxreti hx hb hr hlocks hQ hH ⟨rfl, rfl, h_ma_broken, h_ma_stitches, hbg⟩ ⟨by decide, by decide⟩ dX6_mend_50
    · replace hf := (if_pos c12).symm.trans hf
      cases hf
      exact zthr_s hx hb hst hQ hnh hlocks hown hts zk_t3_46 zk_t1_12 hX (is := 233) (text := "no break was seen") (by decide +kernel) (hl.1.trans hml.symm) hH ⟨h_ma_broken, h_ma_stitches, hbg⟩ ⟨by decide, by decide, by decide, by decide⟩ ⟨by decide, by decide⟩ dX6_mend_32 dX6_mend_35 dX6_mend_36 dX6_mend_38 dX6_mend_41
  · replace hf := (if_pos c6).symm.trans hf
    cases hf
    exact zthr_i hx hb hst hQ hnh hlocks hown hts zk_t2_90 zk_t1_10 hX (is := 220) (text := "there is no such head") (by decide +kernel) (hl.1.trans hml.symm) hH ⟨h_ma_broken, h_ma_stitches, hbg⟩ ⟨by decide, by decide, by decide, by decide⟩ ⟨by decide, by decide⟩ dX6_mend_11 dX6_mend_14 dX6_mend_15 dX6_mend_17 dX6_mend_20
abbrev rmX6_sewn : Room := { frames := 6, cells := 1, slots := 6, locals := 92 }
theorem hd_X6_sewn : yX6_sewn.cls = RX6 ∧ yX6_sewn.cls ≠ "java/lang/invoke/MethodHandle" ∧ yX6_sewn.cls ≠ "java/lang/invoke/VarHandle" ∧ (parseMethodDescriptor yX6_sewn.desc).map (fun d => d.parameters.length) = some 1 := by decide +kernel
set_option maxHeartbeats 4000000 in
set_option maxRecDepth 100000 in
theorem c_X6_sewn {l : Launch} {D : va_G} {cI cZ cF cL cD : ClassId} {ad : Nat → Nat} {N : Nat} (hI : ∀ i j, i < N → j < N → ad i = ad j → i = j) (hN : 19 ≤ N) (hst : l.stackTraces = false) {σ0 : Nat → va_E} {sz : Nat} {sp_fieldCount : Int} {sp_trimBound : Int} {sp_planned : Int} {ma_broken : Int → Int} {ma_brokeAt : Int → Int} {ma_stitches : Int → Int} {ma_headCount : Int} {ma_late : Int} {ma_commandCount : Int} {ma_place : Int} {p1 : Int} {Rt : Int} {R0 : Int} (h_sp : σ0 0 = oC_sp ad sp_fieldCount sp_trimBound sp_planned) (h_ma : σ0 14 = oC_ma ad ma_headCount ma_late ma_commandCount ma_place) (h_ma_broken : σ0 16 = .inl (cZ, 4, .inl (zA ma_broken))) (h_ma_brokeAt : σ0 17 = .inl (cI, 4, .inl (zA ma_brokeAt))) (h_ma_stitches : σ0 18 = .inl (cI, 4, .inl (zA ma_stitches))) (hf : f_X6_sewn ma_stitches ma_headCount p1 = some (Rt, R0)) :
    vx_Met l yX6_sewn (Cond.code yX6_sewn cX6_sewn 2 (some .int) :: wsL_law) rmX6_sewn (zPreX D ad N (zT cI cZ cF cL cD) σ0 sz [.ref (ad 0), .int (zI p1)]) (zQi D ad N sz (fun r σ' => Rt = 0 ∧ r = zI R0 ∧ σ' = σ0)) (zXC D ad N sz Rt (fun σ' => σ' = σ0)) 1 6 (zFr ad N sz) := by
  refine zMetX hI (by decide) (Nat.le_of_ble_eq_true rfl) ?_
  intro p e s m args below meth c Q hx hb hr hlocks hml hown hts hnh hK hX hsz hQ hH hA ls hl
  subst hsz
  have hk_sp : 0 < N := by omega
  have hk_ma : 14 < N := by omega
  have hk_ma_broken : 16 < N := by omega
  have hk_ma_brokeAt : 17 < N := by omega
  have hk_ma_stitches : 18 < N := by omega
  have hl : lv_has ls 2 [(0, .ref (ad 0)), (1, .int (zI p1))] := hl
  have hbg : σ0 = σ0 := rfl
  unfold f_X6_sewn at hf
  refine lv_aload_n hx hb dX6_sewn_0 rfl (lv_at hl 0 rfl) ?_
  refine zget hx hb inlX6 rfl 5 rfl zk_t1_154 hts hown hK hH hk_sp h_sp rfl dX6_sewn_1 ?_
  refine lv_iload_n hx hb dX6_sewn_4 rfl (lv_at hl 1 rfl) ?_
  obtain ⟨r1, k2, hf⟩ := zb1_some hf
  refine zcVi (C := RX1) (As := [.int (zI p1)]) (rest := []) hx hb hml hown hts hl.1 hK hH hA (c_X1_has hI hN  h_ma h_ma_broken h_ma_brokeAt h_ma_stitches k2) zk_t2_218 zk_t2_219 zk_t2_220 zk_t1_5 zk_t2_221 hd_X1_has rfl ⟨rfl, rfl, Nat.le_of_ble_eq_true rfl, Nat.le_of_ble_eq_true rfl⟩ ⟨by decide, by decide⟩ hk_ma h_ma rfl rfl rfl (Nat.le_of_ble_eq_true rfl) dX6_sewn_5 (fun q4 σ3 Hσ3 lσ3 hp hH => ?_)
  obtain ⟨hr1, hs1⟩ := hp; subst hr1; rw [hs1] at hH
  obtain ⟨k5, hf⟩ := zck_some hf
  refine lz_if_ne (tgt := 21) hx hb k5 dX6_sewn_8 (by decide) (fun c6 => ?_) (fun c6 => ?_)
  · replace hf := (if_neg c6).symm.trans hf
    refine lv_aload_n hx hb dX6_sewn_21 rfl (lv_at hl 0 rfl) ?_
    refine zget hx hb inlX6 rfl 5 rfl zk_t1_154 hts hown hK hH hk_sp h_sp rfl dX6_sewn_22 ?_
    refine zget hx hb inlX1 rfl 3 rfl zk_t1_126 hts hown hK hH hk_ma h_ma rfl dX6_sewn_25 ?_
    refine lv_iload_n hx hb dX6_sewn_28 rfl (lv_at hl 1 rfl) ?_
    obtain ⟨k7, hf⟩ := zck_some hf
    refine ziald hx hb hK hH hk_ma_stitches 0 h_ma_stitches rfl k7 rfl dX6_sewn_29 ?_
    cases hf
    exact zxreti hx hb hr hlocks hQ hH ⟨rfl, rfl, hbg⟩ ⟨by decide, by decide⟩ dX6_sewn_30
  · replace hf := (if_pos c6).symm.trans hf
    cases hf
    exact zthr_i hx hb hst hQ hnh hlocks hown hts zk_t2_90 zk_t1_10 hX (is := 220) (text := "there is no such head") (by decide +kernel) (hl.1.trans hml.symm) hH hbg ⟨by decide, by decide, by decide, by decide⟩ ⟨by decide, by decide⟩ dX6_sewn_11 dX6_sewn_14 dX6_sewn_15 dX6_sewn_17 dX6_sewn_20
