abbrev rmX1_has : Room := { frames := 0, cells := 0, slots := 0, locals := 0 }
theorem hd_X1_has : yX1_has.cls = RX1 ∧ yX1_has.cls ≠ "java/lang/invoke/MethodHandle" ∧ yX1_has.cls ≠ "java/lang/invoke/VarHandle" ∧ (parseMethodDescriptor yX1_has.desc).map (fun d => d.parameters.length) = some 1 := by decide +kernel
set_option maxHeartbeats 4000000 in
set_option maxRecDepth 100000 in
theorem c_X1_has {l : Launch} {D : va_G} {cI cZ cF cL cD : ClassId} {ad : Nat → Nat} {N : Nat} (hI : ∀ i j, i < N → j < N → ad i = ad j → i = j) (hN : 19 ≤ N) {σ0 : Nat → va_E} {sz : Nat} {ma_broken : Int → Int} {ma_brokeAt : Int → Int} {ma_stitches : Int → Int} {ma_headCount : Int} {ma_late : Int} {ma_commandCount : Int} {ma_place : Int} {p1 : Int} {R0 : Int} (h_ma : σ0 14 = oC_ma ad ma_headCount ma_late ma_commandCount ma_place) (h_ma_broken : σ0 16 = .inl (cZ, 4, .inl (zA ma_broken))) (h_ma_brokeAt : σ0 17 = .inl (cI, 4, .inl (zA ma_brokeAt))) (h_ma_stitches : σ0 18 = .inl (cI, 4, .inl (zA ma_stitches))) (hf : f_X1_has ma_headCount p1 = some R0) :
    Met l yX1_has (Cond.code yX1_has cX1_has 2 (some .boolean) :: wsL_law) rmX1_has (zPre D ad N (zT cI cZ cF cL cD) σ0 sz [.ref (ad 14), .int (zI p1)]) (zQi D ad N sz (fun r σ' => r = zI R0 ∧ σ' = σ0)) 0 0 (zFr ad N sz) := by
  refine zMet hI (plainFor_of_name (by decide)) (Nat.le_of_ble_eq_true rfl) ⟨rfl, rfl⟩ ?_
  intro p e s m args below meth c Q hx hb hr hlocks hml hown hts hK hsz hQ hH hA ls hl
  subst hsz
  have hk_ma : 14 < N := by omega
  have hk_ma_broken : 16 < N := by omega
  have hk_ma_brokeAt : 17 < N := by omega
  have hk_ma_stitches : 18 < N := by omega
  have hl : lv_has ls 2 [(0, .ref (ad 14)), (1, .int (zI p1))] := hl
  have hbg : σ0 = σ0 := rfl
  unfold f_X1_has at hf
  refine lv_iload_n hx hb dX1_has_0 rfl (lv_at hl 1 rfl) ?_
  obtain ⟨k1, hf⟩ := zck_some hf
  refine lz_if_lt (tgt := 43) hx hb k1 dX1_has_1 (by decide) (fun c2 => ?_) (fun c2 => ?_)
  · replace hf := (if_pos c2).symm.trans hf
    refine lv_iconst (v := zI 0) hx hb dX1_has_43 (by decide +kernel) ?_
    cases hf
    exact zretz hx hb hr hlocks hQ hH ⟨rfl, hbg⟩ (z_nar _ (Or.inl rfl)) dX1_has_44
  · replace hf := (if_neg c2).symm.trans hf
    refine lv_iload_n hx hb dX1_has_4 rfl (lv_at hl 1 rfl) ?_
    refine lv_aload_n hx hb dX1_has_5 rfl (lv_at hl 0 rfl) ?_
    refine zget hx hb inlX1 rfl 4 rfl zk_t1_127 hts hown hK hH hk_ma h_ma rfl dX1_has_6 ?_
    obtain ⟨k3, hf⟩ := zck_some hf
    refine lz_icmp_ge (tgt := 43) hx hb k3 dX1_has_9 (by decide) (fun c4 => ?_) (fun c4 => ?_)
    · replace hf := (if_pos c4).symm.trans hf
      refine lv_iconst (v := zI 0) hx hb dX1_has_43 (by decide +kernel) ?_
      cases hf
      exact zretz hx hb hr hlocks hQ hH ⟨rfl, hbg⟩ (z_nar _ (Or.inl rfl)) dX1_has_44
    · replace hf := (if_neg c4).symm.trans hf
      refine lv_iload_n hx hb dX1_has_12 rfl (lv_at hl 1 rfl) ?_
      refine lv_aload_n hx hb dX1_has_13 rfl (lv_at hl 0 rfl) ?_
      refine zget hx hb inlX1 rfl 1 rfl zk_t1_122 hts hown hK hH hk_ma h_ma rfl dX1_has_14 ?_
      refine zalen (z := 4) hx hb hK hH hk_ma_broken 1 h_ma_broken rfl (show Int32.ofNat 4 = zI 4 by decide +kernel) dX1_has_17 ?_
      obtain ⟨k5, hf⟩ := zck_some hf
      refine lz_icmp_ge (tgt := 43) hx hb ⟨k5, by decide⟩ dX1_has_18 (by decide) (fun c6 => ?_) (fun c6 => ?_)
      · replace hf := (if_pos c6).symm.trans hf
        refine lv_iconst (v := zI 0) hx hb dX1_has_43 (by decide +kernel) ?_
        cases hf
        exact zretz hx hb hr hlocks hQ hH ⟨rfl, hbg⟩ (z_nar _ (Or.inl rfl)) dX1_has_44
      · replace hf := (if_neg c6).symm.trans hf
        refine lv_iload_n hx hb dX1_has_21 rfl (lv_at hl 1 rfl) ?_
        refine lv_aload_n hx hb dX1_has_22 rfl (lv_at hl 0 rfl) ?_
        refine zget hx hb inlX1 rfl 2 rfl zk_t1_124 hts hown hK hH hk_ma h_ma rfl dX1_has_23 ?_
        refine zalen (z := 4) hx hb hK hH hk_ma_brokeAt 0 h_ma_brokeAt rfl (show Int32.ofNat 4 = zI 4 by decide +kernel) dX1_has_26 ?_
        obtain ⟨k7, hf⟩ := zck_some hf
        refine lz_icmp_ge (tgt := 43) hx hb ⟨k7, by decide⟩ dX1_has_27 (by decide) (fun c8 => ?_) (fun c8 => ?_)
        · replace hf := (if_pos c8).symm.trans hf
          refine lv_iconst (v := zI 0) hx hb dX1_has_43 (by decide +kernel) ?_
          cases hf
          exact zretz hx hb hr hlocks hQ hH ⟨rfl, hbg⟩ (z_nar _ (Or.inl rfl)) dX1_has_44
        · replace hf := (if_neg c8).symm.trans hf
          refine lv_iload_n hx hb dX1_has_30 rfl (lv_at hl 1 rfl) ?_
          refine lv_aload_n hx hb dX1_has_31 rfl (lv_at hl 0 rfl) ?_
          refine zget hx hb inlX1 rfl 3 rfl zk_t1_125 hts hown hK hH hk_ma h_ma rfl dX1_has_32 ?_
          refine zalen (z := 4) hx hb hK hH hk_ma_stitches 0 h_ma_stitches rfl (show Int32.ofNat 4 = zI 4 by decide +kernel) dX1_has_35 ?_
          obtain ⟨k9, hf⟩ := zck_some hf
          refine lz_icmp_ge (tgt := 43) hx hb ⟨k9, by decide⟩ dX1_has_36 (by decide) (fun c10 => ?_) (fun c10 => ?_)
          · replace hf := (if_pos c10).symm.trans hf
            refine lv_iconst (v := zI 0) hx hb dX1_has_43 (by decide +kernel) ?_
            cases hf
            exact zretz hx hb hr hlocks hQ hH ⟨rfl, hbg⟩ (z_nar _ (Or.inl rfl)) dX1_has_44
          · replace hf := (if_neg c10).symm.trans hf
            refine lv_iconst (v := zI 1) hx hb dX1_has_39 (by decide +kernel) ?_
            refine lv_goto (tgt := 44) hx hb dX1_has_40 (by decide) ?_
            cases hf
            exact zretz hx hb hr hlocks hQ hH ⟨rfl, hbg⟩ (z_nar _ (Or.inr rfl)) dX1_has_44
abbrev rmX1_begin : Room := { frames := 1, cells := 0, slots := 0, locals := 22 }
theorem hd_X1_begin : yX1_begin.cls = RX1 ∧ yX1_begin.cls ≠ "java/lang/invoke/MethodHandle" ∧ yX1_begin.cls ≠ "java/lang/invoke/VarHandle" ∧ (parseMethodDescriptor yX1_begin.desc).map (fun d => d.parameters.length) = some 3 := by decide +kernel
set_option maxHeartbeats 4000000 in
set_option maxRecDepth 100000 in
theorem c_X1_begin {l : Launch} {D : va_G} {cI cZ cF cL cD : ClassId} {ad : Nat → Nat} {N : Nat} (hI : ∀ i j, i < N → j < N → ad i = ad j → i = j) (hN : 19 ≤ N) {σ0 : Nat → va_E} {sz : Nat} {pl_kinds : Int → Int} {pl_differencesX : Int → Int} {pl_differencesY : Int → Int} {pl_owners : Int → Int} {pl_size : Int} {pl_seconds : UInt32} {pl_needleX : Int} {pl_needleY : Int} {pl_colour : Int} {ma_stitchesAhead : Int → Int} {ma_broken : Int → Int} {ma_brokeAt : Int → Int} {ma_stitches : Int → Int} {ma_headCount : Int} {ma_late : Int} {ma_commandCount : Int} {ma_place : Int} {p2 : Int} {p3 : Int} {R_ma_stitchesAhead : Int → Int} {R_ma_broken : Int → Int} {R_ma_brokeAt : Int → Int} {R_ma_stitches : Int → Int} {R_ma_headCount : Int} {R_ma_late : Int} {R_ma_commandCount : Int} {R_ma_place : Int} (h_pl : σ0 3 = oC_pl ad pl_size pl_seconds pl_needleX pl_needleY pl_colour) (h_pl_kinds : σ0 4 = .inl (cI, 16641, .inl (zA pl_kinds))) (h_pl_differencesX : σ0 5 = .inl (cI, 16641, .inl (zA pl_differencesX))) (h_pl_differencesY : σ0 6 = .inl (cI, 16641, .inl (zA pl_differencesY))) (h_pl_owners : σ0 7 = .inl (cI, 16641, .inl (zA pl_owners))) (h_ma : σ0 14 = oC_ma ad ma_headCount ma_late ma_commandCount ma_place) (h_ma_stitchesAhead : σ0 15 = .inl (cI, 16642, .inl (zA ma_stitchesAhead))) (h_ma_broken : σ0 16 = .inl (cZ, 4, .inl (zA ma_broken))) (h_ma_brokeAt : σ0 17 = .inl (cI, 4, .inl (zA ma_brokeAt))) (h_ma_stitches : σ0 18 = .inl (cI, 4, .inl (zA ma_stitches))) (hf : f_X1_begin pl_kinds pl_differencesX pl_differencesY pl_owners pl_size ma_stitchesAhead ma_broken ma_brokeAt ma_stitches ma_headCount ma_late ma_commandCount ma_place p2 p3 = some (R_ma_stitchesAhead, R_ma_broken, R_ma_brokeAt, R_ma_stitches, R_ma_headCount, R_ma_late, R_ma_commandCount, R_ma_place)) :
    Met l yX1_begin (Cond.code yX1_begin cX1_begin 6 none :: wsL_law) rmX1_begin (zPre D ad N (zT cI cZ cF cL cD) σ0 sz [.ref (ad 14), .ref (ad 3), .int (zI p2), .int (zI p3)]) (zQv D ad N sz (fun σ' => σ' 14 = oC_ma ad R_ma_headCount R_ma_late R_ma_commandCount R_ma_place ∧ σ' 15 = .inl (cI, 16642, .inl (zA R_ma_stitchesAhead)) ∧ σ' 16 = .inl (cZ, 4, .inl (zA R_ma_broken)) ∧ σ' 17 = .inl (cI, 4, .inl (zA R_ma_brokeAt)) ∧ σ' 18 = .inl (cI, 4, .inl (zA R_ma_stitches)) ∧ ∀ i : Nat, i ≠ 14 → i ≠ 15 → i ≠ 16 → i ≠ 17 → i ≠ 18 → σ' i = σ0 i)) 0 0 (zFr ad N sz) := by
  refine zMet hI (plainFor_of_name (by decide)) (Nat.le_of_ble_eq_true rfl) ⟨rfl, rfl⟩ ?_
  intro p e s m args below meth c Q hx hb hr hlocks hml hown hts hK hsz hQ hH hA ls hl
  subst hsz
  have hk_pl : 3 < N := by omega
  have hk_pl_kinds : 4 < N := by omega
  have hk_pl_differencesX : 5 < N := by omega
  have hk_pl_differencesY : 6 < N := by omega
  have hk_pl_owners : 7 < N := by omega
  have hk_ma : 14 < N := by omega
  have hk_ma_stitchesAhead : 15 < N := by omega
  have hk_ma_broken : 16 < N := by omega
  have hk_ma_brokeAt : 17 < N := by omega
  have hk_ma_stitches : 18 < N := by omega
  have hl : lv_has ls 6 [(0, .ref (ad 14)), (1, .ref (ad 3)), (2, .int (zI p2)), (3, .int (zI p3))] := hl
  have hbg : ∀ i : Nat, i ≠ 14 → i ≠ 15 → i ≠ 16 → i ≠ 17 → i ≠ 18 → σ0 i = σ0 i := fun _ _ _ _ _ _ => rfl
  have L97 : ∀ (ma_stitchesAhead : Int → Int) (ma_headCount : Int) (ma_late : Int) (ma_commandCount : Int) (ma_place : Int)  (n : Nat) (x4 : Int) (ma_broken : Int → Int) (ma_brokeAt : Int → Int) (ma_stitches : Int → Int) (x4' : Int) (ma_broken' : Int → Int) (ma_brokeAt' : Int → Int) (ma_stitches' : Int → Int), zlp (fun z => f_X1_begin_L97 pl_kinds pl_differencesX pl_differencesY pl_owners pl_size ma_stitchesAhead ma_headCount ma_late ma_commandCount ma_place z.1 z.2.1 z.2.2.1 z.2.2.2) n (x4, ma_broken, ma_brokeAt, ma_stitches) = some (x4', ma_broken', ma_brokeAt', ma_stitches') → ∀ (σ : Nat → va_E) (H : Heap) (locs : List Loc) (hH : zH D ad N (zFr ad N s.heap.size) s.heap σ H locs) (h_pl : σ 3 = oC_pl ad pl_size pl_seconds pl_needleX pl_needleY pl_colour) (h_pl_kinds : σ 4 = .inl (cI, 16641, .inl (zA pl_kinds))) (h_pl_differencesX : σ 5 = .inl (cI, 16641, .inl (zA pl_differencesX))) (h_pl_differencesY : σ 6 = .inl (cI, 16641, .inl (zA pl_differencesY))) (h_pl_owners : σ 7 = .inl (cI, 16641, .inl (zA pl_owners))) (h_ma : σ 14 = oC_ma ad ma_headCount ma_late ma_commandCount ma_place) (h_ma_stitchesAhead : σ 15 = .inl (cI, 16642, .inl (zA ma_stitchesAhead))) (h_ma_broken : σ 16 = .inl (cZ, 4, .inl (zA ma_broken))) (h_ma_brokeAt : σ 17 = .inl (cI, 4, .inl (zA ma_brokeAt))) (h_ma_stitches : σ 18 = .inl (cI, 4, .inl (zA ma_stitches))) (hbg : ∀ i : Nat, i ≠ 14 → i ≠ 15 → i ≠ 16 → i ≠ 17 → i ≠ 18 → σ i = σ0 i) (ls : Array Slot) (hl : lv_has ls 6 [(0, .ref (ad 14)), (4, .int (zI x4))]), (∀ (σ : Nat → va_E) (H : Heap) (locs : List Loc) (hH : zH D ad N (zFr ad N s.heap.size) s.heap σ H locs) (h_pl : σ 3 = oC_pl ad pl_size pl_seconds pl_needleX pl_needleY pl_colour) (h_pl_kinds : σ 4 = .inl (cI, 16641, .inl (zA pl_kinds))) (h_pl_differencesX : σ 5 = .inl (cI, 16641, .inl (zA pl_differencesX))) (h_pl_differencesY : σ 6 = .inl (cI, 16641, .inl (zA pl_differencesY))) (h_pl_owners : σ 7 = .inl (cI, 16641, .inl (zA pl_owners))) (h_ma : σ 14 = oC_ma ad ma_headCount ma_late ma_commandCount ma_place) (h_ma_stitchesAhead : σ 15 = .inl (cI, 16642, .inl (zA ma_stitchesAhead))) (h_ma_broken : σ 16 = .inl (cZ, 4, .inl (zA (ma_broken')))) (h_ma_brokeAt : σ 17 = .inl (cI, 4, .inl (zA (ma_brokeAt')))) (h_ma_stitches : σ 18 = .inl (cI, 4, .inl (zA (ma_stitches')))) (hbg : ∀ i : Nat, i ≠ 14 → i ≠ 15 → i ≠ 16 → i ≠ 17 → i ≠ 18 → σ i = σ0 i) (ls : Array Slot) (hl : lv_has ls 6 []), W p l e rmX1_begin s m args below meth c H locs 0 0 Q (F0 m 133 ls [])) → W p l e rmX1_begin s m args below meth c H locs 0 0 Q (F0 m 97 ls []) := by
    intro ma_stitchesAhead ma_headCount ma_late ma_commandCount ma_place n
    induction n with
    | zero => intro x4 ma_broken ma_brokeAt ma_stitches x4' ma_broken' ma_brokeAt' ma_stitches' hz; exact (zlp_0 hz).elim
    | succ n ih =>
      intro x4 ma_broken ma_brokeAt ma_stitches x4' ma_broken' ma_brokeAt' ma_stitches' hz σ H locs hH h_pl h_pl_kinds h_pl_differencesX h_pl_differencesY h_pl_owners h_ma h_ma_stitchesAhead h_ma_broken h_ma_brokeAt h_ma_stitches hbg ls hl kx
      obtain ⟨nx, hf, hnx⟩ := zlp_some hz
      have hf : f_X1_begin_L97 pl_kinds pl_differencesX pl_differencesY pl_owners pl_size ma_stitchesAhead ma_headCount ma_late ma_commandCount ma_place x4 ma_broken ma_brokeAt ma_stitches = some nx := hf
      unfold f_X1_begin_L97 at hf
      refine lv_iload hx hb dX1_begin_97 (lv_at hl 1 rfl) ?_
      refine lv_iconst (v := zI 4) hx hb dX1_begin_99 (by decide +kernel) ?_
      obtain ⟨k1, hf⟩ := zck_some hf
      refine lz_icmp_ge (tgt := 133) hx hb ⟨k1, by decide⟩ dX1_begin_100 (by decide) (fun c2 => ?_) (fun c2 => ?_)
      · replace hf := (if_pos c2).symm.trans hf
        cases hf
        cases hnx
        exact kx _ _ _ hH h_pl h_pl_kinds h_pl_differencesX h_pl_differencesY h_pl_owners h_ma h_ma_stitchesAhead h_ma_broken h_ma_brokeAt h_ma_stitches hbg _ (lv_sub hl [] rfl)
      · replace hf := (if_neg c2).symm.trans hf
        refine lv_aload_n hx hb dX1_begin_103 rfl (lv_at hl 0 rfl) ?_
        refine zget hx hb inlX1 rfl 1 rfl zk_t1_122 hts hown hK hH hk_ma h_ma rfl dX1_begin_104 ?_
        refine lv_iload hx hb dX1_begin_107 (lv_at hl 1 rfl) ?_
        refine lv_iconst (v := zI 0) hx hb dX1_begin_109 (by decide +kernel) ?_
        obtain ⟨k3, hf⟩ := zck_some hf
        obtain ⟨a5, ea5, hf⟩ := zlt_some hf
        refine zzast hx hb hK hH hk_ma_broken 1 h_ma_broken rfl k3 (Or.inl rfl) rfl dX1_begin_110 (fun σ4 Hσ4 lσ4 h_ma_broken hn hH => ?_)
        rw [← ea5] at h_ma_broken
        have h_pl := (hn 3 (by decide)).trans h_pl
        have h_pl_kinds := (hn 4 (by decide)).trans h_pl_kinds
        have h_pl_differencesX := (hn 5 (by decide)).trans h_pl_differencesX
        have h_pl_differencesY := (hn 6 (by decide)).trans h_pl_differencesY
        have h_pl_owners := (hn 7 (by decide)).trans h_pl_owners
        have h_ma := (hn 14 (by decide)).trans h_ma
        have h_ma_stitchesAhead := (hn 15 (by decide)).trans h_ma_stitchesAhead
        have h_ma_brokeAt := (hn 17 (by decide)).trans h_ma_brokeAt
        have h_ma_stitches := (hn 18 (by decide)).trans h_ma_stitches
        have hbg : ∀ i : Nat, i ≠ 14 → i ≠ 15 → i ≠ 16 → i ≠ 17 → i ≠ 18 → σ4 i = σ0 i := fun i a0 a1 a2 a3 a4 => (hn i a2).trans (hbg i a0 a1 a2 a3 a4)
        refine lv_aload_n hx hb dX1_begin_111 rfl (lv_at hl 0 rfl) ?_
        refine zget hx hb inlX1 rfl 2 rfl zk_t1_124 hts hown hK hH hk_ma h_ma rfl dX1_begin_112 ?_
        refine lv_iload hx hb dX1_begin_115 (lv_at hl 1 rfl) ?_
        refine lv_iconst (v := zI 0) hx hb dX1_begin_117 (by decide +kernel) ?_
        obtain ⟨k6, hf⟩ := zck_some hf
        obtain ⟨a8, ea8, hf⟩ := zlt_some hf
        refine ziast hx hb hK hH hk_ma_brokeAt 0 h_ma_brokeAt rfl k6 rfl dX1_begin_118 (fun σ7 Hσ7 lσ7 h_ma_brokeAt hn hH => ?_)
        rw [← ea8] at h_ma_brokeAt
        have h_pl := (hn 3 (by decide)).trans h_pl
        have h_pl_kinds := (hn 4 (by decide)).trans h_pl_kinds
        have h_pl_differencesX := (hn 5 (by decide)).trans h_pl_differencesX
        have h_pl_differencesY := (hn 6 (by decide)).trans h_pl_differencesY
        have h_pl_owners := (hn 7 (by decide)).trans h_pl_owners
        have h_ma := (hn 14 (by decide)).trans h_ma
        have h_ma_stitchesAhead := (hn 15 (by decide)).trans h_ma_stitchesAhead
        have h_ma_broken := (hn 16 (by decide)).trans h_ma_broken
        have h_ma_stitches := (hn 18 (by decide)).trans h_ma_stitches
        have hbg : ∀ i : Nat, i ≠ 14 → i ≠ 15 → i ≠ 16 → i ≠ 17 → i ≠ 18 → σ7 i = σ0 i := fun i a0 a1 a2 a3 a4 => (hn i a3).trans (hbg i a0 a1 a2 a3 a4)
        refine lv_aload_n hx hb dX1_begin_119 rfl (lv_at hl 0 rfl) ?_
        refine zget hx hb inlX1 rfl 3 rfl zk_t1_125 hts hown hK hH hk_ma h_ma rfl dX1_begin_120 ?_
        refine lv_iload hx hb dX1_begin_123 (lv_at hl 1 rfl) ?_
        refine lv_iconst (v := zI 0) hx hb dX1_begin_125 (by decide +kernel) ?_
        obtain ⟨k9, hf⟩ := zck_some hf
        obtain ⟨a11, ea11, hf⟩ := zlt_some hf
        refine ziast hx hb hK hH hk_ma_stitches 0 h_ma_stitches rfl k9 rfl dX1_begin_126 (fun σ10 Hσ10 lσ10 h_ma_stitches hn hH => ?_)
        rw [← ea11] at h_ma_stitches
        have h_pl := (hn 3 (by decide)).trans h_pl
        have h_pl_kinds := (hn 4 (by decide)).trans h_pl_kinds
        have h_pl_differencesX := (hn 5 (by decide)).trans h_pl_differencesX
        have h_pl_differencesY := (hn 6 (by decide)).trans h_pl_differencesY
        have h_pl_owners := (hn 7 (by decide)).trans h_pl_owners
        have h_ma := (hn 14 (by decide)).trans h_ma
        have h_ma_stitchesAhead := (hn 15 (by decide)).trans h_ma_stitchesAhead
        have h_ma_broken := (hn 16 (by decide)).trans h_ma_broken
        have h_ma_brokeAt := (hn 17 (by decide)).trans h_ma_brokeAt
        have hbg : ∀ i : Nat, i ≠ 14 → i ≠ 15 → i ≠ 16 → i ≠ 17 → i ≠ 18 → σ10 i = σ0 i := fun i a0 a1 a2 a3 a4 => (hn i a4).trans (hbg i a0 a1 a2 a3 a4)
        refine lz_iinc (lv' := [(4, .int (zI (x4 + 1))), (0, .ref (ad 14))]) hx hb dX1_begin_127 hl (j := 1) rfl (by decide) rfl (fun ls hl => ?_)
        refine lv_goto (tgt := 97) hx hb dX1_begin_130 (by decide) ?_
        cases hf
        exact ih (x4 + 1) a5 a8 a11 _ _ _ _ hnx _ _ _ hH h_pl h_pl_kinds h_pl_differencesX h_pl_differencesY h_pl_owners h_ma h_ma_stitchesAhead h_ma_broken h_ma_brokeAt h_ma_stitches hbg _ (lv_sub hl [1, 0] rfl) kx
  have J94 : ∀ (ma_stitchesAhead : Int → Int) (ma_broken : Int → Int) (ma_brokeAt : Int → Int) (ma_stitches : Int → Int) (ma_headCount : Int) (ma_late : Int) (ma_commandCount : Int) (ma_place : Int) (σ : Nat → va_E) (H : Heap) (locs : List Loc) (hH : zH D ad N (zFr ad N s.heap.size) s.heap σ H locs) (h_pl : σ 3 = oC_pl ad pl_size pl_seconds pl_needleX pl_needleY pl_colour) (h_pl_kinds : σ 4 = .inl (cI, 16641, .inl (zA pl_kinds))) (h_pl_differencesX : σ 5 = .inl (cI, 16641, .inl (zA pl_differencesX))) (h_pl_differencesY : σ 6 = .inl (cI, 16641, .inl (zA pl_differencesY))) (h_pl_owners : σ 7 = .inl (cI, 16641, .inl (zA pl_owners))) (h_ma : σ 14 = oC_ma ad ma_headCount ma_late ma_commandCount ma_place) (h_ma_stitchesAhead : σ 15 = .inl (cI, 16642, .inl (zA ma_stitchesAhead))) (h_ma_broken : σ 16 = .inl (cZ, 4, .inl (zA ma_broken))) (h_ma_brokeAt : σ 17 = .inl (cI, 4, .inl (zA ma_brokeAt))) (h_ma_stitches : σ 18 = .inl (cI, 4, .inl (zA ma_stitches))) (hbg : ∀ i : Nat, i ≠ 14 → i ≠ 15 → i ≠ 16 → i ≠ 17 → i ≠ 18 → σ i = σ0 i) (ls : Array Slot) (hl : lv_has ls 6 [(0, .ref (ad 14))]), f_X1_begin_94 pl_kinds pl_differencesX pl_differencesY pl_owners pl_size ma_stitchesAhead ma_broken ma_brokeAt ma_stitches ma_headCount ma_late ma_commandCount ma_place = some (R_ma_stitchesAhead, R_ma_broken, R_ma_brokeAt, R_ma_stitches, R_ma_headCount, R_ma_late, R_ma_commandCount, R_ma_place) → W p l e rmX1_begin s m args below meth c H locs 0 0 Q (F0 m 94 ls []) := by
    intro ma_stitchesAhead ma_broken ma_brokeAt ma_stitches ma_headCount ma_late ma_commandCount ma_place σ H locs hH h_pl h_pl_kinds h_pl_differencesX h_pl_differencesY h_pl_owners h_ma h_ma_stitchesAhead h_ma_broken h_ma_brokeAt h_ma_stitches hbg ls hl hf
    unfold f_X1_begin_94 at hf
    refine lv_iconst (v := zI 0) hx hb dX1_begin_94 (by decide +kernel) ?_
    refine lv_istore (lv' := [(4, .int (zI 0)), (0, .ref (ad 14))]) hx hb dX1_begin_95 hl (by decide) rfl (fun ls hl => ?_)
    obtain ⟨w13, w14, w15, w16, k12, hf⟩ := zb4_some hf
    refine L97 ma_stitchesAhead ma_headCount ma_late ma_commandCount ma_place zFU 0 ma_broken ma_brokeAt ma_stitches w13 w14 w15 w16 k12 _ _ _ hH h_pl h_pl_kinds h_pl_differencesX h_pl_differencesY h_pl_owners h_ma h_ma_stitchesAhead h_ma_broken h_ma_brokeAt h_ma_stitches hbg _ (lv_sub hl [1, 0] rfl) (fun σ17 Hσ17 lσ17 hH h_pl h_pl_kinds h_pl_differencesX h_pl_differencesY h_pl_owners h_ma h_ma_stitchesAhead h_ma_broken h_ma_brokeAt h_ma_stitches hbg ls hl => ?_)
    cases hf
    exact zretv hx hb hr hlocks hQ hH ⟨h_ma, h_ma_stitchesAhead, h_ma_broken, h_ma_brokeAt, h_ma_stitches, hbg⟩ dX1_begin_133
  have L23 : ∀ (ma_broken : Int → Int) (ma_brokeAt : Int → Int) (ma_stitches : Int → Int) (ma_headCount : Int) (ma_late : Int) (ma_place : Int)  (n : Nat) (x4 : Int) (ma_stitchesAhead : Int → Int) (ma_commandCount : Int) (x4' : Int) (ma_stitchesAhead' : Int → Int) (ma_commandCount' : Int), zlp (fun z => f_X1_begin_L23 pl_kinds pl_differencesX pl_differencesY pl_owners pl_size ma_broken ma_brokeAt ma_stitches ma_headCount ma_late ma_place z.1 z.2.1 z.2.2) n (x4, ma_stitchesAhead, ma_commandCount) = some (x4', ma_stitchesAhead', ma_commandCount') → ∀ (σ : Nat → va_E) (H : Heap) (locs : List Loc) (hH : zH D ad N (zFr ad N s.heap.size) s.heap σ H locs) (h_pl : σ 3 = oC_pl ad pl_size pl_seconds pl_needleX pl_needleY pl_colour) (h_pl_kinds : σ 4 = .inl (cI, 16641, .inl (zA pl_kinds))) (h_pl_differencesX : σ 5 = .inl (cI, 16641, .inl (zA pl_differencesX))) (h_pl_differencesY : σ 6 = .inl (cI, 16641, .inl (zA pl_differencesY))) (h_pl_owners : σ 7 = .inl (cI, 16641, .inl (zA pl_owners))) (h_ma : σ 14 = oC_ma ad ma_headCount ma_late ma_commandCount ma_place) (h_ma_stitchesAhead : σ 15 = .inl (cI, 16642, .inl (zA ma_stitchesAhead))) (h_ma_broken : σ 16 = .inl (cZ, 4, .inl (zA ma_broken))) (h_ma_brokeAt : σ 17 = .inl (cI, 4, .inl (zA ma_brokeAt))) (h_ma_stitches : σ 18 = .inl (cI, 4, .inl (zA ma_stitches))) (hbg : ∀ i : Nat, i ≠ 14 → i ≠ 15 → i ≠ 16 → i ≠ 17 → i ≠ 18 → σ i = σ0 i) (ls : Array Slot) (hl : lv_has ls 6 [(0, .ref (ad 14)), (1, .ref (ad 3)), (4, .int (zI x4))]), (∀ (σ : Nat → va_E) (H : Heap) (locs : List Loc) (hH : zH D ad N (zFr ad N s.heap.size) s.heap σ H locs) (h_pl : σ 3 = oC_pl ad pl_size pl_seconds pl_needleX pl_needleY pl_colour) (h_pl_kinds : σ 4 = .inl (cI, 16641, .inl (zA pl_kinds))) (h_pl_differencesX : σ 5 = .inl (cI, 16641, .inl (zA pl_differencesX))) (h_pl_differencesY : σ 6 = .inl (cI, 16641, .inl (zA pl_differencesY))) (h_pl_owners : σ 7 = .inl (cI, 16641, .inl (zA pl_owners))) (h_ma : σ 14 = oC_ma ad ma_headCount ma_late (ma_commandCount') ma_place) (h_ma_stitchesAhead : σ 15 = .inl (cI, 16642, .inl (zA (ma_stitchesAhead')))) (h_ma_broken : σ 16 = .inl (cZ, 4, .inl (zA ma_broken))) (h_ma_brokeAt : σ 17 = .inl (cI, 4, .inl (zA ma_brokeAt))) (h_ma_stitches : σ 18 = .inl (cI, 4, .inl (zA ma_stitches))) (hbg : ∀ i : Nat, i ≠ 14 → i ≠ 15 → i ≠ 16 → i ≠ 17 → i ≠ 18 → σ i = σ0 i) (ls : Array Slot) (hl : lv_has ls 6 [(0, .ref (ad 14))]), W p l e rmX1_begin s m args below meth c H locs 0 0 Q (F0 m 94 ls [])) → W p l e rmX1_begin s m args below meth c H locs 0 0 Q (F0 m 23 ls []) := by
    intro ma_broken ma_brokeAt ma_stitches ma_headCount ma_late ma_place n
    induction n with
    | zero => intro x4 ma_stitchesAhead ma_commandCount x4' ma_stitchesAhead' ma_commandCount' hz; exact (zlp_0 hz).elim
    | succ n ih =>
      intro x4 ma_stitchesAhead ma_commandCount x4' ma_stitchesAhead' ma_commandCount' hz σ H locs hH h_pl h_pl_kinds h_pl_differencesX h_pl_differencesY h_pl_owners h_ma h_ma_stitchesAhead h_ma_broken h_ma_brokeAt h_ma_stitches hbg ls hl kx
      obtain ⟨nx, hf, hnx⟩ := zlp_some hz
      have hf : f_X1_begin_L23 pl_kinds pl_differencesX pl_differencesY pl_owners pl_size ma_broken ma_brokeAt ma_stitches ma_headCount ma_late ma_place x4 ma_stitchesAhead ma_commandCount = some nx := hf
      have JL23_59 : ∀ (ma_stitchesAhead : Int → Int) (ma_commandCount : Int) (x4 : Int) (s0 : Int) (σ : Nat → va_E) (H : Heap) (locs : List Loc) (hH : zH D ad N (zFr ad N s.heap.size) s.heap σ H locs) (h_pl : σ 3 = oC_pl ad pl_size pl_seconds pl_needleX pl_needleY pl_colour) (h_pl_kinds : σ 4 = .inl (cI, 16641, .inl (zA pl_kinds))) (h_pl_differencesX : σ 5 = .inl (cI, 16641, .inl (zA pl_differencesX))) (h_pl_differencesY : σ 6 = .inl (cI, 16641, .inl (zA pl_differencesY))) (h_pl_owners : σ 7 = .inl (cI, 16641, .inl (zA pl_owners))) (h_ma : σ 14 = oC_ma ad ma_headCount ma_late ma_commandCount ma_place) (h_ma_stitchesAhead : σ 15 = .inl (cI, 16642, .inl (zA ma_stitchesAhead))) (h_ma_broken : σ 16 = .inl (cZ, 4, .inl (zA ma_broken))) (h_ma_brokeAt : σ 17 = .inl (cI, 4, .inl (zA ma_brokeAt))) (h_ma_stitches : σ 18 = .inl (cI, 4, .inl (zA ma_stitches))) (hbg : ∀ i : Nat, i ≠ 14 → i ≠ 15 → i ≠ 16 → i ≠ 17 → i ≠ 18 → σ i = σ0 i) (ls : Array Slot) (hl : lv_has ls 6 [(0, .ref (ad 14)), (1, .ref (ad 3)), (4, .int (zI x4))]), f_X1_begin_L23_59 pl_kinds pl_differencesX pl_differencesY pl_owners pl_size ma_stitchesAhead ma_broken ma_brokeAt ma_stitches ma_headCount ma_late ma_commandCount ma_place x4 s0 = some nx → W p l e rmX1_begin s m args below meth c H locs 0 0 Q (F0 m 59 ls [.int (zI s0)]) := by
        intro ma_stitchesAhead ma_commandCount x4 s0 σ H locs hH h_pl h_pl_kinds h_pl_differencesX h_pl_differencesY h_pl_owners h_ma h_ma_stitchesAhead h_ma_broken h_ma_brokeAt h_ma_stitches hbg ls hl hf
        unfold f_X1_begin_L23_59 at hf
        refine lv_istore (lv' := [(5, .int (zI s0)), (0, .ref (ad 14)), (1, .ref (ad 3)), (4, .int (zI x4))]) hx hb dX1_begin_59 hl (by decide) rfl (fun ls hl => ?_)
        refine lv_aload_n hx hb dX1_begin_61 rfl (lv_at hl 1 rfl) ?_
        refine zget hx hb inlX1 rfl 0 rfl zk_t1_121 hts hown hK hH hk_ma h_ma rfl dX1_begin_62 ?_
        refine lv_iload hx hb dX1_begin_65 (lv_at hl 3 rfl) ?_
        refine lv_iconst (v := zI 1) hx hb dX1_begin_67 (by decide +kernel) ?_
        refine lz_iadd hx hb dX1_begin_68 ?_
        refine lv_aload_n hx hb dX1_begin_69 rfl (lv_at hl 1 rfl) ?_
        refine zget hx hb inlX1 rfl 0 rfl zk_t1_121 hts hown hK hH hk_ma h_ma rfl dX1_begin_70 ?_
        refine lv_iload hx hb dX1_begin_73 (lv_at hl 3 rfl) ?_
        obtain ⟨k18, hf⟩ := zck_some hf
        refine ziald hx hb hK hH hk_ma_stitchesAhead 0 h_ma_stitchesAhead rfl k18 rfl dX1_begin_75 ?_
        refine lv_iload hx hb dX1_begin_76 (lv_at hl 0 rfl) ?_
        refine lz_iadd hx hb dX1_begin_78 ?_
        obtain ⟨k19, hf⟩ := zck_some hf
        obtain ⟨a21, ea21, hf⟩ := zlt_some hf
        refine ziast hx hb hK hH hk_ma_stitchesAhead 0 h_ma_stitchesAhead rfl k19 rfl dX1_begin_79 (fun σ20 Hσ20 lσ20 h_ma_stitchesAhead hn hH => ?_)
        rw [← ea21] at h_ma_stitchesAhead
        have h_pl := (hn 3 (by decide)).trans h_pl
        have h_pl_kinds := (hn 4 (by decide)).trans h_pl_kinds
        have h_pl_differencesX := (hn 5 (by decide)).trans h_pl_differencesX
        have h_pl_differencesY := (hn 6 (by decide)).trans h_pl_differencesY
        have h_pl_owners := (hn 7 (by decide)).trans h_pl_owners
        have h_ma := (hn 14 (by decide)).trans h_ma
        have h_ma_broken := (hn 16 (by decide)).trans h_ma_broken
        have h_ma_brokeAt := (hn 17 (by decide)).trans h_ma_brokeAt
        have h_ma_stitches := (hn 18 (by decide)).trans h_ma_stitches
        have hbg : ∀ i : Nat, i ≠ 14 → i ≠ 15 → i ≠ 16 → i ≠ 17 → i ≠ 18 → σ20 i = σ0 i := fun i a0 a1 a2 a3 a4 => (hn i a1).trans (hbg i a0 a1 a2 a3 a4)
        refine lv_aload_n hx hb dX1_begin_80 rfl (lv_at hl 1 rfl) ?_
        refine lv_iload hx hb dX1_begin_81 (lv_at hl 3 rfl) ?_
        refine lv_iconst (v := zI 1) hx hb dX1_begin_83 (by decide +kernel) ?_
        refine lz_iadd hx hb dX1_begin_84 ?_
        obtain ⟨v22, ev22, hf⟩ := zlt_some hf
        refine lz_nm ev22 ?_
        refine zput hx hb inlX1 tyX1 tyX1_ok nmX1 rfl 6 rfl zk_t1_130 rfl hts hown hK hH hk_ma h_ma rfl rfl rfl dX1_begin_85 (fun σ23 Hσ23 lσ23 h_ma hn hH => ?_)
        have h_ma : σ23 14 = oC_ma ad ma_headCount ma_late v22 ma_place := h_ma
        have h_pl := (hn 3 (by decide)).trans h_pl
        have h_pl_kinds := (hn 4 (by decide)).trans h_pl_kinds
        have h_pl_differencesX := (hn 5 (by decide)).trans h_pl_differencesX
        have h_pl_differencesY := (hn 6 (by decide)).trans h_pl_differencesY
        have h_pl_owners := (hn 7 (by decide)).trans h_pl_owners
        have h_ma_stitchesAhead := (hn 15 (by decide)).trans h_ma_stitchesAhead
        have h_ma_broken := (hn 16 (by decide)).trans h_ma_broken
        have h_ma_brokeAt := (hn 17 (by decide)).trans h_ma_brokeAt
        have h_ma_stitches := (hn 18 (by decide)).trans h_ma_stitches
        have hbg : ∀ i : Nat, i ≠ 14 → i ≠ 15 → i ≠ 16 → i ≠ 17 → i ≠ 18 → σ23 i = σ0 i := fun i a0 a1 a2 a3 a4 => (hn i a0).trans (hbg i a0 a1 a2 a3 a4)
        refine lz_iinc (lv' := [(4, .int (zI (x4 + 1))), (5, .int (zI s0)), (0, .ref (ad 14)), (1, .ref (ad 3))]) hx hb dX1_begin_88 hl (j := 3) rfl (by decide) rfl (fun ls hl => ?_)
        refine lv_goto (tgt := 23) hx hb dX1_begin_91 (by decide) ?_
        cases hf
        exact ih (x4 + 1) a21 v22 _ _ _ hnx _ _ _ hH h_pl h_pl_kinds h_pl_differencesX h_pl_differencesY h_pl_owners h_ma h_ma_stitchesAhead h_ma_broken h_ma_brokeAt h_ma_stitches hbg _ (lv_sub hl [2, 3, 0] rfl) kx
      unfold f_X1_begin_L23 at hf
      refine lv_iload hx hb dX1_begin_23 (lv_at hl 2 rfl) ?_
      refine lv_aload_n hx hb dX1_begin_25 rfl (lv_at hl 1 rfl) ?_
      refine zget hx hb inlX3 rfl 6 rfl zk_t1_40 hts hown hK hH hk_pl h_pl rfl dX1_begin_26 ?_
      obtain ⟨k24, hf⟩ := zck_some hf
      refine lz_icmp_ge (tgt := 94) hx hb k24 dX1_begin_29 (by decide) (fun c25 => ?_) (fun c25 => ?_)
      · replace hf := (if_pos c25).symm.trans hf
        cases hf
        cases hnx
        exact kx _ _ _ hH h_pl h_pl_kinds h_pl_differencesX h_pl_differencesY h_pl_owners h_ma h_ma_stitchesAhead h_ma_broken h_ma_brokeAt h_ma_stitches hbg _ (lv_sub hl [0] rfl)
      · replace hf := (if_neg c25).symm.trans hf
        refine lv_iload hx hb dX1_begin_32 (lv_at hl 2 rfl) ?_
        refine lv_iconst (v := zI 1) hx hb dX1_begin_34 (by decide +kernel) ?_
        refine lz_iadd hx hb dX1_begin_35 ?_
        refine lv_aload_n hx hb dX1_begin_36 rfl (lv_at hl 0 rfl) ?_
        refine zget hx hb inlX1 rfl 0 rfl zk_t1_121 hts hown hK hH hk_ma h_ma rfl dX1_begin_37 ?_
        refine zalen (z := 16642) hx hb hK hH hk_ma_stitchesAhead 0 h_ma_stitchesAhead rfl (show Int32.ofNat 16642 = zI 16642 by decide +kernel) dX1_begin_40 ?_
        obtain ⟨k26, hf⟩ := zck_some hf
        refine lz_icmp_ge (tgt := 94) hx hb ⟨k26, by decide⟩ dX1_begin_41 (by decide) (fun c27 => ?_) (fun c27 => ?_)
        · replace hf := (if_pos c27).symm.trans hf
          cases hf
          cases hnx
          exact kx _ _ _ hH h_pl h_pl_kinds h_pl_differencesX h_pl_differencesY h_pl_owners h_ma h_ma_stitchesAhead h_ma_broken h_ma_brokeAt h_ma_stitches hbg _ (lv_sub hl [0] rfl)
        · replace hf := (if_neg c27).symm.trans hf
          refine lv_aload_n hx hb dX1_begin_44 rfl (lv_at hl 1 rfl) ?_
          refine lv_iload hx hb dX1_begin_45 (lv_at hl 2 rfl) ?_
          refine lv_iconst (v := zI 0) hx hb dX1_begin_47 (by decide +kernel) ?_
          obtain ⟨r28, k29, hf⟩ := zb1_some hf
          refine zcVi (C := RX3) (As := [.int (zI x4), .int (zI 0)]) (rest := []) hx hb hml hown hts hl.1 hK hH hA (c_X3_told hI hN  h_pl h_pl_kinds h_pl_differencesX h_pl_differencesY h_pl_owners k29) zk_t4_12 zk_t2_175 zk_t2_176 zk_t1_2 zk_t2_177 hd_X3_told rfl ⟨rfl, rfl, Nat.le_of_ble_eq_true rfl, Nat.le_of_ble_eq_true rfl⟩ ⟨Nat.zero_le _, Nat.zero_le _⟩ hk_pl h_pl rfl rfl rfl (Nat.le_of_ble_eq_true rfl) dX1_begin_48 (fun q31 σ30 Hσ30 lσ30 hp hH => ?_)
          obtain ⟨hr1, hs1⟩ := hp; subst hr1; rw [hs1] at hH
          obtain ⟨k32, hf⟩ := zck_some hf
          refine lz_if_ne (tgt := 58) hx hb k32 dX1_begin_51 (by decide) (fun c33 => ?_) (fun c33 => ?_)
          · replace hf := (if_neg c33).symm.trans hf
            refine lv_iconst (v := zI 0) hx hb dX1_begin_58 (by decide +kernel) ?_
            exact JL23_59 ma_stitchesAhead ma_commandCount x4 0 _ _ _ hH h_pl h_pl_kinds h_pl_differencesX h_pl_differencesY h_pl_owners h_ma h_ma_stitchesAhead h_ma_broken h_ma_brokeAt h_ma_stitches hbg _ (lv_sub hl [0, 1, 2] rfl) hf
          · replace hf := (if_pos c33).symm.trans hf
            refine lv_iconst (v := zI 1) hx hb dX1_begin_54 (by decide +kernel) ?_
            refine lv_goto (tgt := 59) hx hb dX1_begin_55 (by decide) ?_
            exact JL23_59 ma_stitchesAhead ma_commandCount x4 1 _ _ _ hH h_pl h_pl_kinds h_pl_differencesX h_pl_differencesY h_pl_owners h_ma h_ma_stitchesAhead h_ma_broken h_ma_brokeAt h_ma_stitches hbg _ (lv_sub hl [0, 1, 2] rfl) hf
  unfold f_X1_begin at hf
  refine lv_aload_n hx hb dX1_begin_0 rfl (lv_at hl 0 rfl) ?_
  refine lv_iload_n hx hb dX1_begin_1 rfl (lv_at hl 2 rfl) ?_
  refine zput hx hb inlX1 tyX1 tyX1_ok nmX1 rfl 4 rfl zk_t1_127 rfl hts hown hK hH hk_ma h_ma rfl rfl rfl dX1_begin_2 (fun σ34 Hσ34 lσ34 h_ma hn hH => ?_)
  have h_ma : σ34 14 = oC_ma ad p2 ma_late ma_commandCount ma_place := h_ma
  have h_pl := (hn 3 (by decide)).trans h_pl
  have h_pl_kinds := (hn 4 (by decide)).trans h_pl_kinds
  have h_pl_differencesX := (hn 5 (by decide)).trans h_pl_differencesX
  have h_pl_differencesY := (hn 6 (by decide)).trans h_pl_differencesY
  have h_pl_owners := (hn 7 (by decide)).trans h_pl_owners
  have h_ma_stitchesAhead := (hn 15 (by decide)).trans h_ma_stitchesAhead
  have h_ma_broken := (hn 16 (by decide)).trans h_ma_broken
  have h_ma_brokeAt := (hn 17 (by decide)).trans h_ma_brokeAt
  have h_ma_stitches := (hn 18 (by decide)).trans h_ma_stitches
  have hbg : ∀ i : Nat, i ≠ 14 → i ≠ 15 → i ≠ 16 → i ≠ 17 → i ≠ 18 → σ34 i = σ0 i := fun i a0 a1 a2 a3 a4 => (hn i a0).trans (hbg i a0 a1 a2 a3 a4)
  refine lv_aload_n hx hb dX1_begin_5 rfl (lv_at hl 0 rfl) ?_
  refine lv_iload_n hx hb dX1_begin_6 rfl (lv_at hl 3 rfl) ?_
  refine zput hx hb inlX1 tyX1 tyX1_ok nmX1 rfl 5 rfl zk_t1_129 rfl hts hown hK hH hk_ma h_ma rfl rfl rfl dX1_begin_7 (fun σ35 Hσ35 lσ35 h_ma hn hH => ?_)
  have h_ma : σ35 14 = oC_ma ad p2 p3 ma_commandCount ma_place := h_ma
  have h_pl := (hn 3 (by decide)).trans h_pl
  have h_pl_kinds := (hn 4 (by decide)).trans h_pl_kinds
  have h_pl_differencesX := (hn 5 (by decide)).trans h_pl_differencesX
  have h_pl_differencesY := (hn 6 (by decide)).trans h_pl_differencesY
  have h_pl_owners := (hn 7 (by decide)).trans h_pl_owners
  have h_ma_stitchesAhead := (hn 15 (by decide)).trans h_ma_stitchesAhead
  have h_ma_broken := (hn 16 (by decide)).trans h_ma_broken
  have h_ma_brokeAt := (hn 17 (by decide)).trans h_ma_brokeAt
  have h_ma_stitches := (hn 18 (by decide)).trans h_ma_stitches
  have hbg : ∀ i : Nat, i ≠ 14 → i ≠ 15 → i ≠ 16 → i ≠ 17 → i ≠ 18 → σ35 i = σ0 i := fun i a0 a1 a2 a3 a4 => (hn i a0).trans (hbg i a0 a1 a2 a3 a4)
  refine lv_aload_n hx hb dX1_begin_10 rfl (lv_at hl 0 rfl) ?_
  refine lv_iconst (v := zI 0) hx hb dX1_begin_11 (by decide +kernel) ?_
  refine zput hx hb inlX1 tyX1 tyX1_ok nmX1 rfl 7 rfl zk_t1_131 rfl hts hown hK hH hk_ma h_ma rfl rfl rfl dX1_begin_12 (fun σ36 Hσ36 lσ36 h_ma hn hH => ?_)
  have h_ma : σ36 14 = oC_ma ad p2 p3 ma_commandCount 0 := h_ma
  have h_pl := (hn 3 (by decide)).trans h_pl
  have h_pl_kinds := (hn 4 (by decide)).trans h_pl_kinds
  have h_pl_differencesX := (hn 5 (by decide)).trans h_pl_differencesX
  have h_pl_differencesY := (hn 6 (by decide)).trans h_pl_differencesY
  have h_pl_owners := (hn 7 (by decide)).trans h_pl_owners
  have h_ma_stitchesAhead := (hn 15 (by decide)).trans h_ma_stitchesAhead
  have h_ma_broken := (hn 16 (by decide)).trans h_ma_broken
  have h_ma_brokeAt := (hn 17 (by decide)).trans h_ma_brokeAt
  have h_ma_stitches := (hn 18 (by decide)).trans h_ma_stitches
  have hbg : ∀ i : Nat, i ≠ 14 → i ≠ 15 → i ≠ 16 → i ≠ 17 → i ≠ 18 → σ36 i = σ0 i := fun i a0 a1 a2 a3 a4 => (hn i a0).trans (hbg i a0 a1 a2 a3 a4)
  refine lv_aload_n hx hb dX1_begin_15 rfl (lv_at hl 0 rfl) ?_
  refine lv_iconst (v := zI 0) hx hb dX1_begin_16 (by decide +kernel) ?_
  refine zput hx hb inlX1 tyX1 tyX1_ok nmX1 rfl 6 rfl zk_t1_130 rfl hts hown hK hH hk_ma h_ma rfl rfl rfl dX1_begin_17 (fun σ37 Hσ37 lσ37 h_ma hn hH => ?_)
  have h_ma : σ37 14 = oC_ma ad p2 p3 0 0 := h_ma
  have h_pl := (hn 3 (by decide)).trans h_pl
  have h_pl_kinds := (hn 4 (by decide)).trans h_pl_kinds
  have h_pl_differencesX := (hn 5 (by decide)).trans h_pl_differencesX
  have h_pl_differencesY := (hn 6 (by decide)).trans h_pl_differencesY
  have h_pl_owners := (hn 7 (by decide)).trans h_pl_owners
  have h_ma_stitchesAhead := (hn 15 (by decide)).trans h_ma_stitchesAhead
  have h_ma_broken := (hn 16 (by decide)).trans h_ma_broken
  have h_ma_brokeAt := (hn 17 (by decide)).trans h_ma_brokeAt
  have h_ma_stitches := (hn 18 (by decide)).trans h_ma_stitches
  have hbg : ∀ i : Nat, i ≠ 14 → i ≠ 15 → i ≠ 16 → i ≠ 17 → i ≠ 18 → σ37 i = σ0 i := fun i a0 a1 a2 a3 a4 => (hn i a0).trans (hbg i a0 a1 a2 a3 a4)
  refine lv_iconst (v := zI 0) hx hb dX1_begin_20 (by decide +kernel) ?_
  refine lv_istore (lv' := [(4, .int (zI 0)), (0, .ref (ad 14)), (1, .ref (ad 3)), (2, .int (zI p2)), (3, .int (zI p3))]) hx hb dX1_begin_21 hl (by decide) rfl (fun ls hl => ?_)
  obtain ⟨w39, w40, w41, k38, hf⟩ := zb3_some hf
  refine L23 ma_broken ma_brokeAt ma_stitches p2 p3 0 zFU 0 ma_stitchesAhead 0 w39 w40 w41 k38 _ _ _ hH h_pl h_pl_kinds h_pl_differencesX h_pl_differencesY h_pl_owners h_ma h_ma_stitchesAhead h_ma_broken h_ma_brokeAt h_ma_stitches hbg _ (lv_sub hl [1, 2, 0] rfl) (fun σ42 Hσ42 lσ42 hH h_pl h_pl_kinds h_pl_differencesX h_pl_differencesY h_pl_owners h_ma h_ma_stitchesAhead h_ma_broken h_ma_brokeAt h_ma_stitches hbg ls hl => ?_)
  exact J94 w40 ma_broken ma_brokeAt ma_stitches p2 p3 w41 0 _ _ _ hH h_pl h_pl_kinds h_pl_differencesX h_pl_differencesY h_pl_owners h_ma h_ma_stitchesAhead h_ma_broken h_ma_brokeAt h_ma_stitches hbg _ (lv_sub hl [0] rfl) hf
abbrev rmX1_stitchesBetween : Room := { frames := 0, cells := 0, slots := 0, locals := 0 }
theorem hd_X1_stitchesBetween : yX1_stitchesBetween.cls = RX1 ∧ yX1_stitchesBetween.cls ≠ "java/lang/invoke/MethodHandle" ∧ yX1_stitchesBetween.cls ≠ "java/lang/invoke/VarHandle" ∧ (parseMethodDescriptor yX1_stitchesBetween.desc).map (fun d => d.parameters.length) = some 2 := by decide +kernel
set_option maxHeartbeats 4000000 in
set_option maxRecDepth 100000 in
theorem c_X1_stitchesBetween {l : Launch} {D : va_G} {cI cZ cF cL cD : ClassId} {ad : Nat → Nat} {N : Nat} (hI : ∀ i j, i < N → j < N → ad i = ad j → i = j) (hN : 19 ≤ N) {σ0 : Nat → va_E} {sz : Nat} {ma_stitchesAhead : Int → Int} {ma_headCount : Int} {ma_late : Int} {ma_commandCount : Int} {ma_place : Int} {p1 : Int} {p2 : Int} {R0 : Int} (h_ma : σ0 14 = oC_ma ad ma_headCount ma_late ma_commandCount ma_place) (h_ma_stitchesAhead : σ0 15 = .inl (cI, 16642, .inl (zA ma_stitchesAhead))) (hf : f_X1_stitchesBetween ma_stitchesAhead p1 p2 = some R0) :
    Met l yX1_stitchesBetween (Cond.code yX1_stitchesBetween cX1_stitchesBetween 3 (some .int) :: wsL_law) rmX1_stitchesBetween (zPre D ad N (zT cI cZ cF cL cD) σ0 sz [.ref (ad 14), .int (zI p1), .int (zI p2)]) (zQi D ad N sz (fun r σ' => r = zI R0 ∧ σ' = σ0)) 0 0 (zFr ad N sz) := by
  refine zMet hI (plainFor_of_name (by decide)) (Nat.le_of_ble_eq_true rfl) ⟨rfl, rfl⟩ ?_
  intro p e s m args below meth c Q hx hb hr hlocks hml hown hts hK hsz hQ hH hA ls hl
  subst hsz
  have hk_ma : 14 < N := by omega
  have hk_ma_stitchesAhead : 15 < N := by omega
  have hl : lv_has ls 3 [(0, .ref (ad 14)), (1, .int (zI p1)), (2, .int (zI p2))] := hl
  have hbg : σ0 = σ0 := rfl
  unfold f_X1_stitchesBetween at hf
  refine lv_iload_n hx hb dX1_stitchesBetween_0 rfl (lv_at hl 1 rfl) ?_
  obtain ⟨k1, hf⟩ := zck_some hf
  refine lz_if_lt (tgt := 18) hx hb k1 dX1_stitchesBetween_1 (by decide) (fun c2 => ?_) (fun c2 => ?_)
  · replace hf := (if_pos c2).symm.trans hf
    refine lv_iconst (v := zI 0) hx hb dX1_stitchesBetween_18 (by decide +kernel) ?_
    cases hf
    exact zreti hx hb hr hlocks hQ hH ⟨rfl, hbg⟩ dX1_stitchesBetween_19
  · replace hf := (if_neg c2).symm.trans hf
    refine lv_iload_n hx hb dX1_stitchesBetween_4 rfl (lv_at hl 2 rfl) ?_
    refine lv_iload_n hx hb dX1_stitchesBetween_5 rfl (lv_at hl 1 rfl) ?_
    obtain ⟨k3, hf⟩ := zck_some hf
    refine lz_icmp_lt (tgt := 18) hx hb k3 dX1_stitchesBetween_6 (by decide) (fun c4 => ?_) (fun c4 => ?_)
    · replace hf := (if_pos c4).symm.trans hf
      refine lv_iconst (v := zI 0) hx hb dX1_stitchesBetween_18 (by decide +kernel) ?_
      cases hf
      exact zreti hx hb hr hlocks hQ hH ⟨rfl, hbg⟩ dX1_stitchesBetween_19
    · replace hf := (if_neg c4).symm.trans hf
      refine lv_iload_n hx hb dX1_stitchesBetween_9 rfl (lv_at hl 2 rfl) ?_
      refine lv_aload_n hx hb dX1_stitchesBetween_10 rfl (lv_at hl 0 rfl) ?_
      refine zget hx hb inlX1 rfl 0 rfl zk_t1_121 hts hown hK hH hk_ma h_ma rfl dX1_stitchesBetween_11 ?_
      refine zalen (z := 16642) hx hb hK hH hk_ma_stitchesAhead 0 h_ma_stitchesAhead rfl (show Int32.ofNat 16642 = zI 16642 by decide +kernel) dX1_stitchesBetween_14 ?_
      obtain ⟨k5, hf⟩ := zck_some hf
      refine lz_icmp_lt (tgt := 20) hx hb ⟨k5, by decide⟩ dX1_stitchesBetween_15 (by decide) (fun c6 => ?_) (fun c6 => ?_)
      · replace hf := (if_pos c6).symm.trans hf
        refine lv_aload_n hx hb dX1_stitchesBetween_20 rfl (lv_at hl 0 rfl) ?_
        refine zget hx hb inlX1 rfl 0 rfl zk_t1_121 hts hown hK hH hk_ma h_ma rfl dX1_stitchesBetween_21 ?_
        refine lv_iload_n hx hb dX1_stitchesBetween_24 rfl (lv_at hl 2 rfl) ?_
        obtain ⟨k7, hf⟩ := zck_some hf
        refine ziald hx hb hK hH hk_ma_stitchesAhead 0 h_ma_stitchesAhead rfl k7 rfl dX1_stitchesBetween_25 ?_
        refine lv_aload_n hx hb dX1_stitchesBetween_26 rfl (lv_at hl 0 rfl) ?_
        refine zget hx hb inlX1 rfl 0 rfl zk_t1_121 hts hown hK hH hk_ma h_ma rfl dX1_stitchesBetween_27 ?_
        refine lv_iload_n hx hb dX1_stitchesBetween_30 rfl (lv_at hl 1 rfl) ?_
        obtain ⟨k8, hf⟩ := zck_some hf
        refine ziald hx hb hK hH hk_ma_stitchesAhead 0 h_ma_stitchesAhead rfl k8 rfl dX1_stitchesBetween_31 ?_
        refine lz_isub hx hb dX1_stitchesBetween_32 ?_
        cases hf
        exact zreti hx hb hr hlocks hQ hH ⟨rfl, hbg⟩ dX1_stitchesBetween_33
      · replace hf := (if_neg c6).symm.trans hf
        refine lv_iconst (v := zI 0) hx hb dX1_stitchesBetween_18 (by decide +kernel) ?_
        cases hf
        exact zreti hx hb hr hlocks hQ hH ⟨rfl, hbg⟩ dX1_stitchesBetween_19
abbrev rmX1_isSeen : Room := { frames := 1, cells := 0, slots := 0, locals := 21 }
theorem hd_X1_isSeen : yX1_isSeen.cls = RX1 ∧ yX1_isSeen.cls ≠ "java/lang/invoke/MethodHandle" ∧ yX1_isSeen.cls ≠ "java/lang/invoke/VarHandle" ∧ (parseMethodDescriptor yX1_isSeen.desc).map (fun d => d.parameters.length) = some 1 := by decide +kernel
set_option maxHeartbeats 4000000 in
set_option maxRecDepth 100000 in
theorem c_X1_isSeen {l : Launch} {D : va_G} {cI cZ cF cL cD : ClassId} {ad : Nat → Nat} {N : Nat} (hI : ∀ i j, i < N → j < N → ad i = ad j → i = j) (hN : 19 ≤ N) {σ0 : Nat → va_E} {sz : Nat} {ma_broken : Int → Int} {ma_brokeAt : Int → Int} {ma_stitches : Int → Int} {ma_headCount : Int} {ma_late : Int} {ma_commandCount : Int} {ma_place : Int} {p1 : Int} {R0 : Int} (h_ma : σ0 14 = oC_ma ad ma_headCount ma_late ma_commandCount ma_place) (h_ma_broken : σ0 16 = .inl (cZ, 4, .inl (zA ma_broken))) (h_ma_brokeAt : σ0 17 = .inl (cI, 4, .inl (zA ma_brokeAt))) (h_ma_stitches : σ0 18 = .inl (cI, 4, .inl (zA ma_stitches))) (hf : f_X1_isSeen ma_broken ma_brokeAt ma_headCount ma_late ma_commandCount ma_place p1 = some R0) :
    Met l yX1_isSeen (Cond.code yX1_isSeen cX1_isSeen 2 (some .boolean) :: wsL_law) rmX1_isSeen (zPre D ad N (zT cI cZ cF cL cD) σ0 sz [.ref (ad 14), .int (zI p1)]) (zQi D ad N sz (fun r σ' => r = zI R0 ∧ σ' = σ0)) 0 0 (zFr ad N sz) := by
  refine zMet hI (plainFor_of_name (by decide)) (Nat.le_of_ble_eq_true rfl) ⟨rfl, rfl⟩ ?_
  intro p e s m args below meth c Q hx hb hr hlocks hml hown hts hK hsz hQ hH hA ls hl
  subst hsz
  have hk_ma : 14 < N := by omega
  have hk_ma_broken : 16 < N := by omega
  have hk_ma_brokeAt : 17 < N := by omega
  have hk_ma_stitches : 18 < N := by omega
  have hl : lv_has ls 2 [(0, .ref (ad 14)), (1, .int (zI p1))] := hl
  have hbg : σ0 = σ0 := rfl
  have J46 : ∀  (σ : Nat → va_E) (H : Heap) (locs : List Loc) (hH : zH D ad N (zFr ad N s.heap.size) s.heap σ H locs) (h_ma : σ 14 = oC_ma ad ma_headCount ma_late ma_commandCount ma_place) (h_ma_broken : σ 16 = .inl (cZ, 4, .inl (zA ma_broken))) (h_ma_brokeAt : σ 17 = .inl (cI, 4, .inl (zA ma_brokeAt))) (h_ma_stitches : σ 18 = .inl (cI, 4, .inl (zA ma_stitches))) (hbg : σ = σ0) (ls : Array Slot) (hl : lv_has ls 2 []), f_X1_isSeen_46 ma_broken ma_brokeAt ma_headCount ma_late ma_commandCount ma_place = some R0 → W p l e rmX1_isSeen s m args below meth c H locs 0 0 Q (F0 m 46 ls []) := by
    intro  σ H locs hH h_ma h_ma_broken h_ma_brokeAt h_ma_stitches hbg ls hl hf
    unfold f_X1_isSeen_46 at hf
    refine lv_iconst (v := zI 1) hx hb dX1_isSeen_46 (by decide +kernel) ?_
    refine lv_goto (tgt := 51) hx hb dX1_isSeen_47 (by decide) ?_
    cases hf
    exact zretz hx hb hr hlocks hQ hH ⟨rfl, hbg⟩ (z_nar _ (Or.inr rfl)) dX1_isSeen_51
  unfold f_X1_isSeen at hf
  refine lv_aload_n hx hb dX1_isSeen_0 rfl (lv_at hl 0 rfl) ?_
  refine lv_iload_n hx hb dX1_isSeen_1 rfl (lv_at hl 1 rfl) ?_
  obtain ⟨r1, k2, hf⟩ := zb1_some hf
  refine zcVi (C := RX1) (As := [.int (zI p1)]) (rest := []) hx hb hml hown hts hl.1 hK hH hA (c_X1_has hI hN  h_ma h_ma_broken h_ma_brokeAt h_ma_stitches k2) zk_t4_31 zk_t2_219 zk_t2_220 zk_t1_5 zk_t2_221 hd_X1_has rfl ⟨rfl, rfl, Nat.le_of_ble_eq_true rfl, Nat.le_of_ble_eq_true rfl⟩ ⟨Nat.zero_le _, Nat.zero_le _⟩ hk_ma h_ma rfl rfl rfl (Nat.le_of_ble_eq_true rfl) dX1_isSeen_2 (fun q4 σ3 Hσ3 lσ3 hp hH => ?_)
  obtain ⟨hr1, hs1⟩ := hp; subst hr1; rw [hs1] at hH
  obtain ⟨k5, hf⟩ := zck_some hf
  refine lz_if_eq (tgt := 50) hx hb k5 dX1_isSeen_5 (by decide) (fun c6 => ?_) (fun c6 => ?_)
  · replace hf := (if_pos c6).symm.trans hf
    refine lv_iconst (v := zI 0) hx hb dX1_isSeen_50 (by decide +kernel) ?_
    cases hf
    exact zretz hx hb hr hlocks hQ hH ⟨rfl, hbg⟩ (z_nar _ (Or.inl rfl)) dX1_isSeen_51
  · replace hf := (if_neg c6).symm.trans hf
    refine lv_aload_n hx hb dX1_isSeen_8 rfl (lv_at hl 0 rfl) ?_
    refine zget hx hb inlX1 rfl 1 rfl zk_t1_122 hts hown hK hH hk_ma h_ma rfl dX1_isSeen_9 ?_
    refine lv_iload_n hx hb dX1_isSeen_12 rfl (lv_at hl 1 rfl) ?_
    obtain ⟨k7, hf⟩ := zck_some hf
    refine zzald hx hb hK hH hk_ma_broken 1 h_ma_broken rfl k7 rfl dX1_isSeen_13 ?_
    obtain ⟨k8, hf⟩ := zck_some hf
    refine lz_if_eq (tgt := 50) hx hb k8 dX1_isSeen_14 (by decide) (fun c9 => ?_) (fun c9 => ?_)
    · replace hf := (if_pos c9).symm.trans hf
      refine lv_iconst (v := zI 0) hx hb dX1_isSeen_50 (by decide +kernel) ?_
      cases hf
      exact zretz hx hb hr hlocks hQ hH ⟨rfl, hbg⟩ (z_nar _ (Or.inl rfl)) dX1_isSeen_51
    · replace hf := (if_neg c9).symm.trans hf
      refine lv_aload_n hx hb dX1_isSeen_17 rfl (lv_at hl 0 rfl) ?_
      refine zget hx hb inlX1 rfl 7 rfl zk_t1_131 hts hown hK hH hk_ma h_ma rfl dX1_isSeen_18 ?_
      refine lv_aload_n hx hb dX1_isSeen_21 rfl (lv_at hl 0 rfl) ?_
      refine zget hx hb inlX1 rfl 2 rfl zk_t1_124 hts hown hK hH hk_ma h_ma rfl dX1_isSeen_22 ?_
      refine lv_iload_n hx hb dX1_isSeen_25 rfl (lv_at hl 1 rfl) ?_
      obtain ⟨k10, hf⟩ := zck_some hf
      refine ziald hx hb hK hH hk_ma_brokeAt 0 h_ma_brokeAt rfl k10 rfl dX1_isSeen_26 ?_
      refine lz_isub hx hb dX1_isSeen_27 ?_
      refine lv_aload_n hx hb dX1_isSeen_28 rfl (lv_at hl 0 rfl) ?_
      refine zget hx hb inlX1 rfl 5 rfl zk_t1_129 hts hown hK hH hk_ma h_ma rfl dX1_isSeen_29 ?_
      obtain ⟨k11, hf⟩ := zck_some hf
      refine lz_icmp_ge (tgt := 46) hx hb k11 dX1_isSeen_32 (by decide) (fun c12 => ?_) (fun c12 => ?_)
      · replace hf := (if_pos c12).symm.trans hf
        exact J46  _ _ _ hH h_ma h_ma_broken h_ma_brokeAt h_ma_stitches hbg _ (lv_sub hl [] rfl) hf
      · replace hf := (if_neg c12).symm.trans hf
        refine lv_aload_n hx hb dX1_isSeen_35 rfl (lv_at hl 0 rfl) ?_
        refine zget hx hb inlX1 rfl 7 rfl zk_t1_131 hts hown hK hH hk_ma h_ma rfl dX1_isSeen_36 ?_
        refine lv_aload_n hx hb dX1_isSeen_39 rfl (lv_at hl 0 rfl) ?_
        refine zget hx hb inlX1 rfl 6 rfl zk_t1_130 hts hown hK hH hk_ma h_ma rfl dX1_isSeen_40 ?_
        obtain ⟨k13, hf⟩ := zck_some hf
        refine lz_icmp_lt (tgt := 50) hx hb k13 dX1_isSeen_43 (by decide) (fun c14 => ?_) (fun c14 => ?_)
        · replace hf := (if_pos c14).symm.trans hf
          refine lv_iconst (v := zI 0) hx hb dX1_isSeen_50 (by decide +kernel) ?_
          cases hf
          exact zretz hx hb hr hlocks hQ hH ⟨rfl, hbg⟩ (z_nar _ (Or.inl rfl)) dX1_isSeen_51
        · replace hf := (if_neg c14).symm.trans hf
          exact J46  _ _ _ hH h_ma h_ma_broken h_ma_brokeAt h_ma_stitches hbg _ (lv_sub hl [] rfl) hf
abbrev rmX1_stands : Room := { frames := 2, cells := 0, slots := 0, locals := 42 }
theorem hd_X1_stands : yX1_stands.cls = RX1 ∧ yX1_stands.cls ≠ "java/lang/invoke/MethodHandle" ∧ yX1_stands.cls ≠ "java/lang/invoke/VarHandle" ∧ (parseMethodDescriptor yX1_stands.desc).map (fun d => d.parameters.length) = some 0 := by decide +kernel
set_option maxHeartbeats 4000000 in
set_option maxRecDepth 100000 in
theorem c_X1_stands {l : Launch} {D : va_G} {cI cZ cF cL cD : ClassId} {ad : Nat → Nat} {N : Nat} (hI : ∀ i j, i < N → j < N → ad i = ad j → i = j) (hN : 19 ≤ N) {σ0 : Nat → va_E} {sz : Nat} {ma_broken : Int → Int} {ma_brokeAt : Int → Int} {ma_stitches : Int → Int} {ma_headCount : Int} {ma_late : Int} {ma_commandCount : Int} {ma_place : Int} {R0 : Int} (h_ma : σ0 14 = oC_ma ad ma_headCount ma_late ma_commandCount ma_place) (h_ma_broken : σ0 16 = .inl (cZ, 4, .inl (zA ma_broken))) (h_ma_brokeAt : σ0 17 = .inl (cI, 4, .inl (zA ma_brokeAt))) (h_ma_stitches : σ0 18 = .inl (cI, 4, .inl (zA ma_stitches))) (hf : f_X1_stands ma_broken ma_brokeAt ma_headCount ma_late ma_commandCount ma_place = some R0) :
    Met l yX1_stands (Cond.code yX1_stands cX1_stands 2 (some .boolean) :: wsL_law) rmX1_stands (zPre D ad N (zT cI cZ cF cL cD) σ0 sz [.ref (ad 14)]) (zQi D ad N sz (fun r σ' => r = zI R0 ∧ σ' = σ0)) 0 0 (zFr ad N sz) := by
  refine zMet hI (plainFor_of_name (by decide)) (Nat.le_of_ble_eq_true rfl) ⟨rfl, rfl⟩ ?_
  intro p e s m args below meth c Q hx hb hr hlocks hml hown hts hK hsz hQ hH hA ls hl
  subst hsz
  have hk_ma : 14 < N := by omega
  have hk_ma_broken : 16 < N := by omega
  have hk_ma_brokeAt : 17 < N := by omega
  have hk_ma_stitches : 18 < N := by omega
  have hl : lv_has ls 2 [(0, .ref (ad 14))] := hl
  have hbg : σ0 = σ0 := rfl
  have L2 : ∀   (n : Nat) (x1 : Int) (res : ((Int) ⊕ (Int))), zlp (fun z => f_X1_stands_L2 ma_broken ma_brokeAt ma_headCount ma_late ma_commandCount ma_place z) n x1 = some res → ∀ (σ : Nat → va_E) (H : Heap) (locs : List Loc) (hH : zH D ad N (zFr ad N s.heap.size) s.heap σ H locs) (h_ma : σ 14 = oC_ma ad ma_headCount ma_late ma_commandCount ma_place) (h_ma_broken : σ 16 = .inl (cZ, 4, .inl (zA ma_broken))) (h_ma_brokeAt : σ 17 = .inl (cI, 4, .inl (zA ma_brokeAt))) (h_ma_stitches : σ 18 = .inl (cI, 4, .inl (zA ma_stitches))) (hbg : σ = σ0) (ls : Array Slot) (hl : lv_has ls 2 [(0, .ref (ad 14)), (1, .int (zI x1))]), (∀ (x1' : Int), res = .inl x1' → ∀ (σ : Nat → va_E) (H : Heap) (locs : List Loc) (hH : zH D ad N (zFr ad N s.heap.size) s.heap σ H locs) (h_ma : σ 14 = oC_ma ad ma_headCount ma_late ma_commandCount ma_place) (h_ma_broken : σ 16 = .inl (cZ, 4, .inl (zA ma_broken))) (h_ma_brokeAt : σ 17 = .inl (cI, 4, .inl (zA ma_brokeAt))) (h_ma_stitches : σ 18 = .inl (cI, 4, .inl (zA ma_stitches))) (hbg : σ = σ0) (ls : Array Slot) (hl : lv_has ls 2 []), W p l e rmX1_stands s m args below meth c H locs 0 0 Q (F0 m 26 ls [])) → (∀ b, res = .inr b → some b = some R0) → W p l e rmX1_stands s m args below meth c H locs 0 0 Q (F0 m 2 ls []) := by
    intro  n
    induction n with
    | zero => intro x1 res hz; exact (zlp_0 hz).elim
    | succ n ih =>
      intro x1 res hz σ H locs hH h_ma h_ma_broken h_ma_brokeAt h_ma_stitches hbg ls hl kx kr
      obtain ⟨nx, hf, hnx⟩ := zlp_some hz
      have hf : f_X1_stands_L2 ma_broken ma_brokeAt ma_headCount ma_late ma_commandCount ma_place x1 = some nx := hf
      unfold f_X1_stands_L2 at hf
      refine lv_iload_n hx hb dX1_stands_2 rfl (lv_at hl 1 rfl) ?_
      refine lv_aload_n hx hb dX1_stands_3 rfl (lv_at hl 0 rfl) ?_
      refine zget hx hb inlX1 rfl 4 rfl zk_t1_127 hts hown hK hH hk_ma h_ma rfl dX1_stands_4 ?_
      obtain ⟨k1, hf⟩ := zck_some hf
      refine lz_icmp_ge (tgt := 26) hx hb k1 dX1_stands_7 (by decide) (fun c2 => ?_) (fun c2 => ?_)
      · replace hf := (if_pos c2).symm.trans hf
        cases hf
        exact kx x1 hnx.symm _ _ _ hH h_ma h_ma_broken h_ma_brokeAt h_ma_stitches hbg _ (lv_sub hl [] rfl)
      · replace hf := (if_neg c2).symm.trans hf
        refine lv_aload_n hx hb dX1_stands_10 rfl (lv_at hl 0 rfl) ?_
        refine lv_iload_n hx hb dX1_stands_11 rfl (lv_at hl 1 rfl) ?_
        obtain ⟨r3, k4, hf⟩ := zb1_some hf
        refine zcVi (C := RX1) (As := [.int (zI x1)]) (rest := []) hx hb hml hown hts hl.1 hK hH hA (c_X1_isSeen hI hN  h_ma h_ma_broken h_ma_brokeAt h_ma_stitches k4) zk_t4_27 zk_t4_28 zk_t4_29 zk_t1_5 zk_t4_30 hd_X1_isSeen rfl ⟨rfl, rfl, Nat.le_of_ble_eq_true rfl, Nat.le_of_ble_eq_true rfl⟩ ⟨Nat.zero_le _, Nat.zero_le _⟩ hk_ma h_ma rfl rfl rfl (Nat.le_of_ble_eq_true rfl) dX1_stands_12 (fun q6 σ5 Hσ5 lσ5 hp hH => ?_)
        obtain ⟨hr1, hs1⟩ := hp; subst hr1; rw [hs1] at hH
        obtain ⟨k7, hf⟩ := zck_some hf
        refine lz_if_eq (tgt := 20) hx hb k7 dX1_stands_15 (by decide) (fun c8 => ?_) (fun c8 => ?_)
        · replace hf := (if_pos c8).symm.trans hf
          refine lz_iinc (lv' := [(1, .int (zI (x1 + 1))), (0, .ref (ad 14))]) hx hb dX1_stands_20 hl (j := 1) rfl (by decide) rfl (fun ls hl => ?_)
          refine lv_goto (tgt := 2) hx hb dX1_stands_23 (by decide) ?_
          cases hf
          exact ih (x1 + 1) _ hnx _ _ _ hH h_ma h_ma_broken h_ma_brokeAt h_ma_stitches hbg _ (lv_sub hl [1, 0] rfl) kx kr
        · replace hf := (if_neg c8).symm.trans hf
          refine lv_iconst (v := zI 1) hx hb dX1_stands_18 (by decide +kernel) ?_
          cases hf
          replace hf := kr _ hnx.symm
          cases hf
          exact zretz hx hb hr hlocks hQ hH ⟨rfl, hbg⟩ (z_nar _ (Or.inr rfl)) dX1_stands_19
  unfold f_X1_stands at hf
  refine lv_iconst (v := zI 0) hx hb dX1_stands_0 (by decide +kernel) ?_
  refine lv_istore_n (lv' := [(1, .int (zI 0)), (0, .ref (ad 14))]) hx hb dX1_stands_1 rfl hl (by decide) rfl (fun ls hl => ?_)
  obtain ⟨x12, k9, hf⟩ := zbs_some hf
  refine L2 zFU 0 x12 k9 _ _ _ hH h_ma h_ma_broken h_ma_brokeAt h_ma_stitches hbg _ (lv_sub hl [1, 0] rfl) (fun w10 hres σ11 Hσ11 lσ11 hH h_ma h_ma_broken h_ma_brokeAt h_ma_stitches hbg ls hl => ?_) (fun b hres => ?_)
  rotate_left
  · rw [hres] at hf; exact hf
  rw [hres] at hf
  replace hf := show _ = _ from hf
  simp only [zsel] at hf
  refine lv_iconst (v := zI 0) hx hb dX1_stands_26 (by decide +kernel) ?_
  cases hf
  exact zretz hx hb hr hlocks hQ hH ⟨rfl, hbg⟩ (z_nar _ (Or.inl rfl)) dX1_stands_27
abbrev rmX1_step : Room := { frames := 1, cells := 0, slots := 0, locals := 22 }
theorem hd_X1_step : yX1_step.cls = RX1 ∧ yX1_step.cls ≠ "java/lang/invoke/MethodHandle" ∧ yX1_step.cls ≠ "java/lang/invoke/VarHandle" ∧ (parseMethodDescriptor yX1_step.desc).map (fun d => d.parameters.length) = some 0 := by decide +kernel
set_option maxHeartbeats 4000000 in
set_option maxRecDepth 100000 in
theorem c_X1_step {l : Launch} {D : va_G} {cI cZ cF cL cD : ClassId} {ad : Nat → Nat} {N : Nat} (hI : ∀ i j, i < N → j < N → ad i = ad j → i = j) (hN : 19 ≤ N) {σ0 : Nat → va_E} {sz : Nat} {ma_stitchesAhead : Int → Int} {ma_broken : Int → Int} {ma_stitches : Int → Int} {ma_headCount : Int} {ma_late : Int} {ma_commandCount : Int} {ma_place : Int} {R_ma_stitches : Int → Int} {R_ma_place : Int} (h_ma : σ0 14 = oC_ma ad ma_headCount ma_late ma_commandCount ma_place) (h_ma_stitchesAhead : σ0 15 = .inl (cI, 16642, .inl (zA ma_stitchesAhead))) (h_ma_broken : σ0 16 = .inl (cZ, 4, .inl (zA ma_broken))) (h_ma_stitches : σ0 18 = .inl (cI, 4, .inl (zA ma_stitches))) (hf : f_X1_step ma_stitchesAhead ma_broken ma_stitches ma_headCount ma_place = some (R_ma_stitches, R_ma_place)) :
    Met l yX1_step (Cond.code yX1_step cX1_step 3 none :: wsL_law) rmX1_step (zPre D ad N (zT cI cZ cF cL cD) σ0 sz [.ref (ad 14)]) (zQv D ad N sz (fun σ' => σ' 14 = oC_ma ad ma_headCount ma_late ma_commandCount R_ma_place ∧ σ' 18 = .inl (cI, 4, .inl (zA R_ma_stitches)) ∧ ∀ i : Nat, i ≠ 14 → i ≠ 18 → σ' i = σ0 i)) 0 0 (zFr ad N sz) := by
  refine zMet hI (plainFor_of_name (by decide)) (Nat.le_of_ble_eq_true rfl) ⟨rfl, rfl⟩ ?_
  intro p e s m args below meth c Q hx hb hr hlocks hml hown hts hK hsz hQ hH hA ls hl
  subst hsz
  have hk_ma : 14 < N := by omega
  have hk_ma_stitchesAhead : 15 < N := by omega
  have hk_ma_broken : 16 < N := by omega
  have hk_ma_stitches : 18 < N := by omega
  have hl : lv_has ls 3 [(0, .ref (ad 14))] := hl
  have hbg : ∀ i : Nat, i ≠ 14 → i ≠ 18 → σ0 i = σ0 i := fun _ _ _ => rfl
  have J68 : ∀ (ma_stitches : Int → Int) (ma_place : Int) (σ : Nat → va_E) (H : Heap) (locs : List Loc) (hH : zH D ad N (zFr ad N s.heap.size) s.heap σ H locs) (h_ma : σ 14 = oC_ma ad ma_headCount ma_late ma_commandCount ma_place) (h_ma_stitchesAhead : σ 15 = .inl (cI, 16642, .inl (zA ma_stitchesAhead))) (h_ma_broken : σ 16 = .inl (cZ, 4, .inl (zA ma_broken))) (h_ma_stitches : σ 18 = .inl (cI, 4, .inl (zA ma_stitches))) (hbg : ∀ i : Nat, i ≠ 14 → i ≠ 18 → σ i = σ0 i) (ls : Array Slot) (hl : lv_has ls 3 [(0, .ref (ad 14))]), f_X1_step_68 ma_stitchesAhead ma_broken ma_stitches ma_headCount ma_place = some (R_ma_stitches, R_ma_place) → W p l e rmX1_step s m args below meth c H locs 0 0 Q (F0 m 68 ls []) := by
    intro ma_stitches ma_place σ H locs hH h_ma h_ma_stitchesAhead h_ma_broken h_ma_stitches hbg ls hl hf
    unfold f_X1_step_68 at hf
    refine lv_aload_n hx hb dX1_step_68 rfl (lv_at hl 0 rfl) ?_
    refine lv_dup hx hb dX1_step_69 rfl ?_
    refine zget hx hb inlX1 rfl 7 rfl zk_t1_131 hts hown hK hH hk_ma h_ma rfl dX1_step_70 ?_
    refine lv_iconst (v := zI 1) hx hb dX1_step_73 (by decide +kernel) ?_
    refine lz_iadd hx hb dX1_step_74 ?_
    obtain ⟨v1, ev1, hf⟩ := zlt_some hf
    refine lz_nm ev1 ?_
    refine zput hx hb inlX1 tyX1 tyX1_ok nmX1 rfl 7 rfl zk_t1_131 rfl hts hown hK hH hk_ma h_ma rfl rfl rfl dX1_step_75 (fun σ2 Hσ2 lσ2 h_ma hn hH => ?_)
    have h_ma : σ2 14 = oC_ma ad ma_headCount ma_late ma_commandCount v1 := h_ma
    have h_ma_stitchesAhead := (hn 15 (by decide)).trans h_ma_stitchesAhead
    have h_ma_broken := (hn 16 (by decide)).trans h_ma_broken
    have h_ma_stitches := (hn 18 (by decide)).trans h_ma_stitches
    have hbg : ∀ i : Nat, i ≠ 14 → i ≠ 18 → σ2 i = σ0 i := fun i a0 a1 => (hn i a0).trans (hbg i a0 a1)
    cases hf
    exact zretv hx hb hr hlocks hQ hH ⟨h_ma, h_ma_stitches, hbg⟩ dX1_step_78
  have L17 : ∀ (ma_place : Int) (x1 : Int)  (n : Nat) (x2 : Int) (ma_stitches : Int → Int) (x2' : Int) (ma_stitches' : Int → Int), zlp (fun z => f_X1_step_L17 ma_stitchesAhead ma_broken ma_headCount ma_place x1 z.1 z.2) n (x2, ma_stitches) = some (x2', ma_stitches') → ∀ (σ : Nat → va_E) (H : Heap) (locs : List Loc) (hH : zH D ad N (zFr ad N s.heap.size) s.heap σ H locs) (h_ma : σ 14 = oC_ma ad ma_headCount ma_late ma_commandCount ma_place) (h_ma_stitchesAhead : σ 15 = .inl (cI, 16642, .inl (zA ma_stitchesAhead))) (h_ma_broken : σ 16 = .inl (cZ, 4, .inl (zA ma_broken))) (h_ma_stitches : σ 18 = .inl (cI, 4, .inl (zA ma_stitches))) (hbg : ∀ i : Nat, i ≠ 14 → i ≠ 18 → σ i = σ0 i) (ls : Array Slot) (hl : lv_has ls 3 [(0, .ref (ad 14)), (1, .int (zI x1)), (2, .int (zI x2))]), (∀ (σ : Nat → va_E) (H : Heap) (locs : List Loc) (hH : zH D ad N (zFr ad N s.heap.size) s.heap σ H locs) (h_ma : σ 14 = oC_ma ad ma_headCount ma_late ma_commandCount ma_place) (h_ma_stitchesAhead : σ 15 = .inl (cI, 16642, .inl (zA ma_stitchesAhead))) (h_ma_broken : σ 16 = .inl (cZ, 4, .inl (zA ma_broken))) (h_ma_stitches : σ 18 = .inl (cI, 4, .inl (zA (ma_stitches')))) (hbg : ∀ i : Nat, i ≠ 14 → i ≠ 18 → σ i = σ0 i) (ls : Array Slot) (hl : lv_has ls 3 [(0, .ref (ad 14))]), W p l e rmX1_step s m args below meth c H locs 0 0 Q (F0 m 68 ls [])) → W p l e rmX1_step s m args below meth c H locs 0 0 Q (F0 m 17 ls []) := by
    intro ma_place x1 n
    induction n with
    | zero => intro x2 ma_stitches x2' ma_stitches' hz; exact (zlp_0 hz).elim
    | succ n ih =>
      intro x2 ma_stitches x2' ma_stitches' hz σ H locs hH h_ma h_ma_stitchesAhead h_ma_broken h_ma_stitches hbg ls hl kx
      obtain ⟨nx, hf, hnx⟩ := zlp_some hz
      have hf : f_X1_step_L17 ma_stitchesAhead ma_broken ma_headCount ma_place x1 x2 ma_stitches = some nx := hf
      unfold f_X1_step_L17 at hf
      refine lv_iload_n hx hb dX1_step_17 rfl (lv_at hl 2 rfl) ?_
      refine lv_aload_n hx hb dX1_step_18 rfl (lv_at hl 0 rfl) ?_
      refine zget hx hb inlX1 rfl 4 rfl zk_t1_127 hts hown hK hH hk_ma h_ma rfl dX1_step_19 ?_
      obtain ⟨k3, hf⟩ := zck_some hf
      refine lz_icmp_ge (tgt := 68) hx hb k3 dX1_step_22 (by decide) (fun c4 => ?_) (fun c4 => ?_)
      · replace hf := (if_pos c4).symm.trans hf
        cases hf
        cases hnx
        exact kx _ _ _ hH h_ma h_ma_stitchesAhead h_ma_broken h_ma_stitches hbg _ (lv_sub hl [0] rfl)
      · replace hf := (if_neg c4).symm.trans hf
        refine lv_iload_n hx hb dX1_step_25 rfl (lv_at hl 2 rfl) ?_
        refine lv_aload_n hx hb dX1_step_26 rfl (lv_at hl 0 rfl) ?_
        refine zget hx hb inlX1 rfl 1 rfl zk_t1_122 hts hown hK hH hk_ma h_ma rfl dX1_step_27 ?_
        refine zalen (z := 4) hx hb hK hH hk_ma_broken 1 h_ma_broken rfl (show Int32.ofNat 4 = zI 4 by decide +kernel) dX1_step_30 ?_
        obtain ⟨k5, hf⟩ := zck_some hf
        refine lz_icmp_ge (tgt := 68) hx hb ⟨k5, by decide⟩ dX1_step_31 (by decide) (fun c6 => ?_) (fun c6 => ?_)
        · replace hf := (if_pos c6).symm.trans hf
          cases hf
          cases hnx
          exact kx _ _ _ hH h_ma h_ma_stitchesAhead h_ma_broken h_ma_stitches hbg _ (lv_sub hl [0] rfl)
        · replace hf := (if_neg c6).symm.trans hf
          refine lv_iload_n hx hb dX1_step_34 rfl (lv_at hl 2 rfl) ?_
          refine lv_aload_n hx hb dX1_step_35 rfl (lv_at hl 0 rfl) ?_
          refine zget hx hb inlX1 rfl 3 rfl zk_t1_125 hts hown hK hH hk_ma h_ma rfl dX1_step_36 ?_
          refine zalen (z := 4) hx hb hK hH hk_ma_stitches 0 h_ma_stitches rfl (show Int32.ofNat 4 = zI 4 by decide +kernel) dX1_step_39 ?_
          obtain ⟨k7, hf⟩ := zck_some hf
          refine lz_icmp_ge (tgt := 68) hx hb ⟨k7, by decide⟩ dX1_step_40 (by decide) (fun c8 => ?_) (fun c8 => ?_)
          · replace hf := (if_pos c8).symm.trans hf
            cases hf
            cases hnx
            exact kx _ _ _ hH h_ma h_ma_stitchesAhead h_ma_broken h_ma_stitches hbg _ (lv_sub hl [0] rfl)
          · replace hf := (if_neg c8).symm.trans hf
            refine lv_aload_n hx hb dX1_step_43 rfl (lv_at hl 0 rfl) ?_
            refine zget hx hb inlX1 rfl 1 rfl zk_t1_122 hts hown hK hH hk_ma h_ma rfl dX1_step_44 ?_
            refine lv_iload_n hx hb dX1_step_47 rfl (lv_at hl 2 rfl) ?_
            obtain ⟨k9, hf⟩ := zck_some hf
            refine zzald hx hb hK hH hk_ma_broken 1 h_ma_broken rfl k9 rfl dX1_step_48 ?_
            obtain ⟨k10, hf⟩ := zck_some hf
            refine lz_if_ne (tgt := 62) hx hb k10 dX1_step_49 (by decide) (fun c11 => ?_) (fun c11 => ?_)
            · replace hf := (if_neg c11).symm.trans hf
              refine lz_iinc (lv' := [(2, .int (zI (x2 + 1))), (0, .ref (ad 14)), (1, .int (zI x1))]) hx hb dX1_step_62 hl (j := 2) rfl (by decide) rfl (fun ls hl => ?_)
              refine lv_goto (tgt := 17) hx hb dX1_step_65 (by decide) ?_
              cases hf
              exact ih (x2 + 1) ma_stitches _ _ hnx _ _ _ hH h_ma h_ma_stitchesAhead h_ma_broken h_ma_stitches hbg _ (lv_sub hl [1, 2, 0] rfl) kx
            · replace hf := (if_pos c11).symm.trans hf
              refine lv_aload_n hx hb dX1_step_52 rfl (lv_at hl 0 rfl) ?_
              refine zget hx hb inlX1 rfl 3 rfl zk_t1_125 hts hown hK hH hk_ma h_ma rfl dX1_step_53 ?_
              refine lv_iload_n hx hb dX1_step_56 rfl (lv_at hl 2 rfl) ?_
              refine lv_dup2_11 hx hb dX1_step_57 rfl rfl ?_
              obtain ⟨k12, hf⟩ := zck_some hf
              refine ziald hx hb hK hH hk_ma_stitches 0 h_ma_stitches rfl k12 rfl dX1_step_58 ?_
              refine lv_iload_n hx hb dX1_step_59 rfl (lv_at hl 1 rfl) ?_
              refine lz_iadd hx hb dX1_step_60 ?_
              obtain ⟨k13, hf⟩ := zck_some hf
              obtain ⟨a15, ea15, hf⟩ := zlt_some hf
              refine ziast hx hb hK hH hk_ma_stitches 0 h_ma_stitches rfl k13 rfl dX1_step_61 (fun σ14 Hσ14 lσ14 h_ma_stitches hn hH => ?_)
              rw [← ea15] at h_ma_stitches
              have h_ma := (hn 14 (by decide)).trans h_ma
              have h_ma_stitchesAhead := (hn 15 (by decide)).trans h_ma_stitchesAhead
              have h_ma_broken := (hn 16 (by decide)).trans h_ma_broken
              have hbg : ∀ i : Nat, i ≠ 14 → i ≠ 18 → σ14 i = σ0 i := fun i a0 a1 => (hn i a1).trans (hbg i a0 a1)
              refine lz_iinc (lv' := [(2, .int (zI (x2 + 1))), (0, .ref (ad 14)), (1, .int (zI x1))]) hx hb dX1_step_62 hl (j := 2) rfl (by decide) rfl (fun ls hl => ?_)
              refine lv_goto (tgt := 17) hx hb dX1_step_65 (by decide) ?_
              cases hf
              exact ih (x2 + 1) a15 _ _ hnx _ _ _ hH h_ma h_ma_stitchesAhead h_ma_broken h_ma_stitches hbg _ (lv_sub hl [1, 2, 0] rfl) kx
  unfold f_X1_step at hf
  refine lv_aload_n hx hb dX1_step_0 rfl (lv_at hl 0 rfl) ?_
  refine lv_aload_n hx hb dX1_step_1 rfl (lv_at hl 0 rfl) ?_
  refine zget hx hb inlX1 rfl 7 rfl zk_t1_131 hts hown hK hH hk_ma h_ma rfl dX1_step_2 ?_
  refine lv_aload_n hx hb dX1_step_5 rfl (lv_at hl 0 rfl) ?_
  refine zget hx hb inlX1 rfl 7 rfl zk_t1_131 hts hown hK hH hk_ma h_ma rfl dX1_step_6 ?_
  refine lv_iconst (v := zI 1) hx hb dX1_step_9 (by decide +kernel) ?_
  refine lz_iadd hx hb dX1_step_10 ?_
  obtain ⟨r16, k17, hf⟩ := zb1_some hf
  refine zcVi (C := RX1) (As := [.int (zI ma_place), .int (zI (ma_place + 1))]) (rest := []) hx hb hml hown hts hl.1 hK hH hA (c_X1_stitchesBetween hI hN  h_ma h_ma_stitchesAhead k17) zk_t4_36 zk_t4_38 zk_s2_12 zk_t1_5 zk_t4_39 hd_X1_stitchesBetween rfl ⟨rfl, rfl, Nat.le_of_ble_eq_true rfl, Nat.le_of_ble_eq_true rfl⟩ ⟨Nat.zero_le _, Nat.zero_le _⟩ hk_ma h_ma rfl rfl rfl (Nat.le_of_ble_eq_true rfl) dX1_step_11 (fun q19 σ18 Hσ18 lσ18 hp hH => ?_)
  obtain ⟨hr1, hs1⟩ := hp; subst hr1; rw [hs1] at hH
  refine lv_istore_n (lv' := [(1, .int (zI r16)), (0, .ref (ad 14))]) hx hb dX1_step_14 rfl hl (by decide) rfl (fun ls hl => ?_)
  refine lv_iconst (v := zI 0) hx hb dX1_step_15 (by decide +kernel) ?_
  refine lv_istore_n (lv' := [(2, .int (zI 0)), (1, .int (zI r16)), (0, .ref (ad 14))]) hx hb dX1_step_16 rfl hl (by decide) rfl (fun ls hl => ?_)
  obtain ⟨w21, w22, k20, hf⟩ := zb2_some hf
  refine L17 ma_place r16 zFU 0 ma_stitches w21 w22 k20 _ _ _ hH h_ma h_ma_stitchesAhead h_ma_broken h_ma_stitches hbg _ (lv_sub hl [2, 1, 0] rfl) (fun σ23 Hσ23 lσ23 hH h_ma h_ma_stitchesAhead h_ma_broken h_ma_stitches hbg ls hl => ?_)
  exact J68 w22 ma_place _ _ _ hH h_ma h_ma_stitchesAhead h_ma_broken h_ma_stitches hbg _ (lv_sub hl [0] rfl) hf
abbrev rmX1_advance : Room := { frames := 3, cells := 0, slots := 0, locals := 63 }
theorem hd_X1_advance : yX1_advance.cls = RX1 ∧ yX1_advance.cls ≠ "java/lang/invoke/MethodHandle" ∧ yX1_advance.cls ≠ "java/lang/invoke/VarHandle" ∧ (parseMethodDescriptor yX1_advance.desc).map (fun d => d.parameters.length) = some 1 := by decide +kernel
set_option maxHeartbeats 4000000 in
set_option maxRecDepth 100000 in
theorem c_X1_advance {l : Launch} {D : va_G} {cI cZ cF cL cD : ClassId} {ad : Nat → Nat} {N : Nat} (hI : ∀ i j, i < N → j < N → ad i = ad j → i = j) (hN : 19 ≤ N) {σ0 : Nat → va_E} {sz : Nat} {ma_stitchesAhead : Int → Int} {ma_broken : Int → Int} {ma_brokeAt : Int → Int} {ma_stitches : Int → Int} {ma_headCount : Int} {ma_late : Int} {ma_commandCount : Int} {ma_place : Int} {p1 : Int} {R0 : Int} {R_ma_stitches : Int → Int} {R_ma_place : Int} (h_ma : σ0 14 = oC_ma ad ma_headCount ma_late ma_commandCount ma_place) (h_ma_stitchesAhead : σ0 15 = .inl (cI, 16642, .inl (zA ma_stitchesAhead))) (h_ma_broken : σ0 16 = .inl (cZ, 4, .inl (zA ma_broken))) (h_ma_brokeAt : σ0 17 = .inl (cI, 4, .inl (zA ma_brokeAt))) (h_ma_stitches : σ0 18 = .inl (cI, 4, .inl (zA ma_stitches))) (hf : f_X1_advance ma_stitchesAhead ma_broken ma_brokeAt ma_stitches ma_headCount ma_late ma_commandCount ma_place p1 = some (R0, R_ma_stitches, R_ma_place)) :
    Met l yX1_advance (Cond.code yX1_advance cX1_advance 3 (some .int) :: wsL_law) rmX1_advance (zPre D ad N (zT cI cZ cF cL cD) σ0 sz [.ref (ad 14), .int (zI p1)]) (zQi D ad N sz (fun r σ' => r = zI R0 ∧ σ' 14 = oC_ma ad ma_headCount ma_late ma_commandCount R_ma_place ∧ σ' 18 = .inl (cI, 4, .inl (zA R_ma_stitches)) ∧ ∀ i : Nat, i ≠ 14 → i ≠ 18 → σ' i = σ0 i)) 0 0 (zFr ad N sz) := by
  refine zMet hI (plainFor_of_name (by decide)) (Nat.le_of_ble_eq_true rfl) ⟨rfl, rfl⟩ ?_
  intro p e s m args below meth c Q hx hb hr hlocks hml hown hts hK hsz hQ hH hA ls hl
  subst hsz
  have hk_ma : 14 < N := by omega
  have hk_ma_stitchesAhead : 15 < N := by omega
  have hk_ma_broken : 16 < N := by omega
  have hk_ma_brokeAt : 17 < N := by omega
  have hk_ma_stitches : 18 < N := by omega
  have hl : lv_has ls 3 [(0, .ref (ad 14)), (1, .int (zI p1))] := hl
  have hbg : ∀ i : Nat, i ≠ 14 → i ≠ 18 → σ0 i = σ0 i := fun _ _ _ => rfl
  have L2 : ∀ (x1 : Int)  (n : Nat) (x2 : Int) (ma_stitches : Int → Int) (ma_place : Int) (x2' : Int) (ma_stitches' : Int → Int) (ma_place' : Int), zlp (fun z => f_X1_advance_L2 ma_stitchesAhead ma_broken ma_brokeAt ma_headCount ma_late ma_commandCount x1 z.1 z.2.1 z.2.2) n (x2, ma_stitches, ma_place) = some (x2', ma_stitches', ma_place') → ∀ (σ : Nat → va_E) (H : Heap) (locs : List Loc) (hH : zH D ad N (zFr ad N s.heap.size) s.heap σ H locs) (h_ma : σ 14 = oC_ma ad ma_headCount ma_late ma_commandCount ma_place) (h_ma_stitchesAhead : σ 15 = .inl (cI, 16642, .inl (zA ma_stitchesAhead))) (h_ma_broken : σ 16 = .inl (cZ, 4, .inl (zA ma_broken))) (h_ma_brokeAt : σ 17 = .inl (cI, 4, .inl (zA ma_brokeAt))) (h_ma_stitches : σ 18 = .inl (cI, 4, .inl (zA ma_stitches))) (hbg : ∀ i : Nat, i ≠ 14 → i ≠ 18 → σ i = σ0 i) (ls : Array Slot) (hl : lv_has ls 3 [(0, .ref (ad 14)), (1, .int (zI x1)), (2, .int (zI x2))]), (∀ (σ : Nat → va_E) (H : Heap) (locs : List Loc) (hH : zH D ad N (zFr ad N s.heap.size) s.heap σ H locs) (h_ma : σ 14 = oC_ma ad ma_headCount ma_late ma_commandCount (ma_place')) (h_ma_stitchesAhead : σ 15 = .inl (cI, 16642, .inl (zA ma_stitchesAhead))) (h_ma_broken : σ 16 = .inl (cZ, 4, .inl (zA ma_broken))) (h_ma_brokeAt : σ 17 = .inl (cI, 4, .inl (zA ma_brokeAt))) (h_ma_stitches : σ 18 = .inl (cI, 4, .inl (zA (ma_stitches')))) (hbg : ∀ i : Nat, i ≠ 14 → i ≠ 18 → σ i = σ0 i) (ls : Array Slot) (hl : lv_has ls 3 [(2, .int (zI (x2')))]), W p l e rmX1_advance s m args below meth c H locs 0 0 Q (F0 m 35 ls [])) → W p l e rmX1_advance s m args below meth c H locs 0 0 Q (F0 m 2 ls []) := by
    intro x1 n
    induction n with
    | zero => intro x2 ma_stitches ma_place x2' ma_stitches' ma_place' hz; exact (zlp_0 hz).elim
    | succ n ih =>
      intro x2 ma_stitches ma_place x2' ma_stitches' ma_place' hz σ H locs hH h_ma h_ma_stitchesAhead h_ma_broken h_ma_brokeAt h_ma_stitches hbg ls hl kx
      obtain ⟨nx, hf, hnx⟩ := zlp_some hz
      have hf : f_X1_advance_L2 ma_stitchesAhead ma_broken ma_brokeAt ma_headCount ma_late ma_commandCount x1 x2 ma_stitches ma_place = some nx := hf
      unfold f_X1_advance_L2 at hf
      refine lv_iload_n hx hb dX1_advance_2 rfl (lv_at hl 2 rfl) ?_
      refine lv_iload_n hx hb dX1_advance_3 rfl (lv_at hl 1 rfl) ?_
      obtain ⟨k1, hf⟩ := zck_some hf
      refine lz_icmp_ge (tgt := 35) hx hb k1 dX1_advance_4 (by decide) (fun c2 => ?_) (fun c2 => ?_)
      · replace hf := (if_pos c2).symm.trans hf
        cases hf
        cases hnx
        exact kx _ _ _ hH h_ma h_ma_stitchesAhead h_ma_broken h_ma_brokeAt h_ma_stitches hbg _ (lv_sub hl [2] rfl)
      · replace hf := (if_neg c2).symm.trans hf
        refine lv_aload_n hx hb dX1_advance_7 rfl (lv_at hl 0 rfl) ?_
        refine zget hx hb inlX1 rfl 7 rfl zk_t1_131 hts hown hK hH hk_ma h_ma rfl dX1_advance_8 ?_
        refine lv_aload_n hx hb dX1_advance_11 rfl (lv_at hl 0 rfl) ?_
        refine zget hx hb inlX1 rfl 6 rfl zk_t1_130 hts hown hK hH hk_ma h_ma rfl dX1_advance_12 ?_
        obtain ⟨k3, hf⟩ := zck_some hf
        refine lz_icmp_ge (tgt := 35) hx hb k3 dX1_advance_15 (by decide) (fun c4 => ?_) (fun c4 => ?_)
        · replace hf := (if_pos c4).symm.trans hf
          cases hf
          cases hnx
          exact kx _ _ _ hH h_ma h_ma_stitchesAhead h_ma_broken h_ma_brokeAt h_ma_stitches hbg _ (lv_sub hl [2] rfl)
        · replace hf := (if_neg c4).symm.trans hf
          refine lv_aload_n hx hb dX1_advance_18 rfl (lv_at hl 0 rfl) ?_
          obtain ⟨r5, k6, hf⟩ := zb1_some hf
          refine zcVi (C := RX1) (As := []) (rest := []) hx hb hml hown hts hl.1 hK hH hA (c_X1_stands hI hN  h_ma h_ma_broken h_ma_brokeAt h_ma_stitches k6) zk_t4_23 zk_t4_25 zk_s2_10 zk_t1_5 zk_t4_26 hd_X1_stands rfl ⟨rfl, rfl, Nat.le_of_ble_eq_true rfl, Nat.le_of_ble_eq_true rfl⟩ ⟨Nat.zero_le _, Nat.zero_le _⟩ hk_ma h_ma rfl rfl rfl (Nat.le_of_ble_eq_true rfl) dX1_advance_19 (fun q8 σ7 Hσ7 lσ7 hp hH => ?_)
          obtain ⟨hr1, hs1⟩ := hp; subst hr1; rw [hs1] at hH
          obtain ⟨k9, hf⟩ := zck_some hf
          refine lz_if_ne (tgt := 35) hx hb k9 dX1_advance_22 (by decide) (fun c10 => ?_) (fun c10 => ?_)
          · replace hf := (if_neg c10).symm.trans hf
            cases hf
            cases hnx
            exact kx _ _ _ hH h_ma h_ma_stitchesAhead h_ma_broken h_ma_brokeAt h_ma_stitches hbg _ (lv_sub hl [2] rfl)
          · replace hf := (if_pos c10).symm.trans hf
            refine lv_aload_n hx hb dX1_advance_25 rfl (lv_at hl 0 rfl) ?_
            obtain ⟨a11, u12, k13, hf⟩ := zb2_some hf
            refine zcVv (C := RX1) (As := []) (rest := []) hx hb hml hown hts hl.1 hK hH hA (c_X1_step hI hN  h_ma h_ma_stitchesAhead h_ma_broken h_ma_stitches k13) zk_t4_32 zk_t4_34 zk_s2_11 zk_t1_5 zk_t4_35 hd_X1_step rfl ⟨rfl, rfl, Nat.le_of_ble_eq_true rfl, Nat.le_of_ble_eq_true rfl⟩ ⟨Nat.zero_le _, Nat.zero_le _⟩ hk_ma h_ma rfl rfl rfl (Nat.le_of_ble_eq_true rfl) dX1_advance_26 (fun σ14 Hσ14 lσ14 hp hH => ?_)
            obtain ⟨h_ma, h_ma_stitches, hn⟩ := hp
            have h_ma_stitchesAhead := (hn 15 (by decide) (by decide)).trans h_ma_stitchesAhead
            have h_ma_broken := (hn 16 (by decide) (by decide)).trans h_ma_broken
            have h_ma_brokeAt := (hn 17 (by decide) (by decide)).trans h_ma_brokeAt
            have hbg : ∀ i : Nat, i ≠ 14 → i ≠ 18 → σ14 i = σ0 i := fun i a0 a1 => (hn i a0 a1).trans (hbg i a0 a1)
            refine lz_iinc (lv' := [(2, .int (zI (x2 + 1))), (0, .ref (ad 14)), (1, .int (zI x1))]) hx hb dX1_advance_29 hl (j := 2) rfl (by decide) rfl (fun ls hl => ?_)
            refine lv_goto (tgt := 2) hx hb dX1_advance_32 (by decide) ?_
            cases hf
            exact ih (x2 + 1) a11 u12 _ _ _ hnx _ _ _ hH h_ma h_ma_stitchesAhead h_ma_broken h_ma_brokeAt h_ma_stitches hbg _ (lv_sub hl [1, 2, 0] rfl) kx
  unfold f_X1_advance at hf
  refine lv_iconst (v := zI 0) hx hb dX1_advance_0 (by decide +kernel) ?_
  refine lv_istore_n (lv' := [(2, .int (zI 0)), (0, .ref (ad 14)), (1, .int (zI p1))]) hx hb dX1_advance_1 rfl hl (by decide) rfl (fun ls hl => ?_)
  obtain ⟨w16, w17, w18, k15, hf⟩ := zb3_some hf
  refine L2 p1 zFU 0 ma_stitches ma_place w16 w17 w18 k15 _ _ _ hH h_ma h_ma_stitchesAhead h_ma_broken h_ma_brokeAt h_ma_stitches hbg _ (lv_sub hl [1, 2, 0] rfl) (fun σ19 Hσ19 lσ19 hH h_ma h_ma_stitchesAhead h_ma_broken h_ma_brokeAt h_ma_stitches hbg ls hl => ?_)
  refine lv_iload_n hx hb dX1_advance_35 rfl (lv_at hl 0 rfl) ?_
  cases hf
  exact zreti hx hb hr hlocks hQ hH ⟨rfl, h_ma, h_ma_stitches, hbg⟩ dX1_advance_36
abbrev rmX1_tear : Room := { frames := 1, cells := 0, slots := 0, locals := 21 }
theorem hd_X1_tear : yX1_tear.cls = RX1 ∧ yX1_tear.cls ≠ "java/lang/invoke/MethodHandle" ∧ yX1_tear.cls ≠ "java/lang/invoke/VarHandle" ∧ (parseMethodDescriptor yX1_tear.desc).map (fun d => d.parameters.length) = some 1 := by decide +kernel
set_option maxHeartbeats 4000000 in
set_option maxRecDepth 100000 in
theorem c_X1_tear {l : Launch} {D : va_G} {cI cZ cF cL cD : ClassId} {ad : Nat → Nat} {N : Nat} (hI : ∀ i j, i < N → j < N → ad i = ad j → i = j) (hN : 19 ≤ N) {σ0 : Nat → va_E} {sz : Nat} {ma_broken : Int → Int} {ma_brokeAt : Int → Int} {ma_stitches : Int → Int} {ma_headCount : Int} {ma_late : Int} {ma_commandCount : Int} {ma_place : Int} {p1 : Int} {R_ma_broken : Int → Int} {R_ma_brokeAt : Int → Int} (h_ma : σ0 14 = oC_ma ad ma_headCount ma_late ma_commandCount ma_place) (h_ma_broken : σ0 16 = .inl (cZ, 4, .inl (zA ma_broken))) (h_ma_brokeAt : σ0 17 = .inl (cI, 4, .inl (zA ma_brokeAt))) (h_ma_stitches : σ0 18 = .inl (cI, 4, .inl (zA ma_stitches))) (hf : f_X1_tear ma_broken ma_brokeAt ma_headCount ma_place p1 = some (R_ma_broken, R_ma_brokeAt)) :
    Met l yX1_tear (Cond.code yX1_tear cX1_tear 2 none :: wsL_law) rmX1_tear (zPre D ad N (zT cI cZ cF cL cD) σ0 sz [.ref (ad 14), .int (zI p1)]) (zQv D ad N sz (fun σ' => σ' 16 = .inl (cZ, 4, .inl (zA R_ma_broken)) ∧ σ' 17 = .inl (cI, 4, .inl (zA R_ma_brokeAt)) ∧ ∀ i : Nat, i ≠ 16 → i ≠ 17 → σ' i = σ0 i)) 0 0 (zFr ad N sz) := by
  refine zMet hI (plainFor_of_name (by decide)) (Nat.le_of_ble_eq_true rfl) ⟨rfl, rfl⟩ ?_
  intro p e s m args below meth c Q hx hb hr hlocks hml hown hts hK hsz hQ hH hA ls hl
  subst hsz
  have hk_ma : 14 < N := by omega
  have hk_ma_broken : 16 < N := by omega
  have hk_ma_brokeAt : 17 < N := by omega
  have hk_ma_stitches : 18 < N := by omega
  have hl : lv_has ls 2 [(0, .ref (ad 14)), (1, .int (zI p1))] := hl
  have hbg : ∀ i : Nat, i ≠ 16 → i ≠ 17 → σ0 i = σ0 i := fun _ _ _ => rfl
  unfold f_X1_tear at hf
  refine lv_aload_n hx hb dX1_tear_0 rfl (lv_at hl 0 rfl) ?_
  refine lv_iload_n hx hb dX1_tear_1 rfl (lv_at hl 1 rfl) ?_
  obtain ⟨r1, k2, hf⟩ := zb1_some hf
  refine zcVi (C := RX1) (As := [.int (zI p1)]) (rest := []) hx hb hml hown hts hl.1 hK hH hA (c_X1_has hI hN  h_ma h_ma_broken h_ma_brokeAt h_ma_stitches k2) zk_t4_31 zk_t2_219 zk_t2_220 zk_t1_5 zk_t2_221 hd_X1_has rfl ⟨rfl, rfl, Nat.le_of_ble_eq_true rfl, Nat.le_of_ble_eq_true rfl⟩ ⟨Nat.zero_le _, Nat.zero_le _⟩ hk_ma h_ma rfl rfl rfl (Nat.le_of_ble_eq_true rfl) dX1_tear_2 (fun q4 σ3 Hσ3 lσ3 hp hH => ?_)
  obtain ⟨hr1, hs1⟩ := hp; subst hr1; rw [hs1] at hH
  obtain ⟨k5, hf⟩ := zck_some hf
  refine lz_if_eq (tgt := 25) hx hb k5 dX1_tear_5 (by decide) (fun c6 => ?_) (fun c6 => ?_)
  · replace hf := (if_pos c6).symm.trans hf
    cases hf
    exact zretv hx hb hr hlocks hQ hH ⟨h_ma_broken, h_ma_brokeAt, hbg⟩ dX1_tear_25
  · replace hf := (if_neg c6).symm.trans hf
    refine lv_aload_n hx hb dX1_tear_8 rfl (lv_at hl 0 rfl) ?_
    refine zget hx hb inlX1 rfl 1 rfl zk_t1_122 hts hown hK hH hk_ma h_ma rfl dX1_tear_9 ?_
    refine lv_iload_n hx hb dX1_tear_12 rfl (lv_at hl 1 rfl) ?_
    refine lv_iconst (v := zI 1) hx hb dX1_tear_13 (by decide +kernel) ?_
    obtain ⟨k7, hf⟩ := zck_some hf
    obtain ⟨a9, ea9, hf⟩ := zlt_some hf
    refine zzast hx hb hK hH hk_ma_broken 1 h_ma_broken rfl k7 (Or.inr rfl) rfl dX1_tear_14 (fun σ8 Hσ8 lσ8 h_ma_broken hn hH => ?_)
    rw [← ea9] at h_ma_broken
    have h_ma := (hn 14 (by decide)).trans h_ma
    have h_ma_brokeAt := (hn 17 (by decide)).trans h_ma_brokeAt
    have h_ma_stitches := (hn 18 (by decide)).trans h_ma_stitches
    have hbg : ∀ i : Nat, i ≠ 16 → i ≠ 17 → σ8 i = σ0 i := fun i a0 a1 => (hn i a0).trans (hbg i a0 a1)
    refine lv_aload_n hx hb dX1_tear_15 rfl (lv_at hl 0 rfl) ?_
    refine zget hx hb inlX1 rfl 2 rfl zk_t1_124 hts hown hK hH hk_ma h_ma rfl dX1_tear_16 ?_
    refine lv_iload_n hx hb dX1_tear_19 rfl (lv_at hl 1 rfl) ?_
    refine lv_aload_n hx hb dX1_tear_20 rfl (lv_at hl 0 rfl) ?_
    refine zget hx hb inlX1 rfl 7 rfl zk_t1_131 hts hown hK hH hk_ma h_ma rfl dX1_tear_21 ?_
    obtain ⟨k10, hf⟩ := zck_some hf
    obtain ⟨a12, ea12, hf⟩ := zlt_some hf
    refine ziast hx hb hK hH hk_ma_brokeAt 0 h_ma_brokeAt rfl k10 rfl dX1_tear_24 (fun σ11 Hσ11 lσ11 h_ma_brokeAt hn hH => ?_)
    rw [← ea12] at h_ma_brokeAt
    have h_ma := (hn 14 (by decide)).trans h_ma
    have h_ma_broken := (hn 16 (by decide)).trans h_ma_broken
    have h_ma_stitches := (hn 18 (by decide)).trans h_ma_stitches
    have hbg : ∀ i : Nat, i ≠ 16 → i ≠ 17 → σ11 i = σ0 i := fun i a0 a1 => (hn i a1).trans (hbg i a0 a1)
    cases hf
    exact zretv hx hb hr hlocks hQ hH ⟨h_ma_broken, h_ma_brokeAt, hbg⟩ dX1_tear_25
abbrev rmX1_repair : Room := { frames := 1, cells := 0, slots := 0, locals := 22 }
theorem hd_X1_repair : yX1_repair.cls = RX1 ∧ yX1_repair.cls ≠ "java/lang/invoke/MethodHandle" ∧ yX1_repair.cls ≠ "java/lang/invoke/VarHandle" ∧ (parseMethodDescriptor yX1_repair.desc).map (fun d => d.parameters.length) = some 1 := by decide +kernel
set_option maxHeartbeats 4000000 in
set_option maxRecDepth 100000 in
theorem c_X1_repair {l : Launch} {D : va_G} {cI cZ cF cL cD : ClassId} {ad : Nat → Nat} {N : Nat} (hI : ∀ i j, i < N → j < N → ad i = ad j → i = j) (hN : 19 ≤ N) {σ0 : Nat → va_E} {sz : Nat} {ma_stitchesAhead : Int → Int} {ma_broken : Int → Int} {ma_brokeAt : Int → Int} {ma_stitches : Int → Int} {ma_headCount : Int} {ma_late : Int} {ma_commandCount : Int} {ma_place : Int} {p1 : Int} {R0 : Int} {R_ma_broken : Int → Int} {R_ma_stitches : Int → Int} (h_ma : σ0 14 = oC_ma ad ma_headCount ma_late ma_commandCount ma_place) (h_ma_stitchesAhead : σ0 15 = .inl (cI, 16642, .inl (zA ma_stitchesAhead))) (h_ma_broken : σ0 16 = .inl (cZ, 4, .inl (zA ma_broken))) (h_ma_brokeAt : σ0 17 = .inl (cI, 4, .inl (zA ma_brokeAt))) (h_ma_stitches : σ0 18 = .inl (cI, 4, .inl (zA ma_stitches))) (hf : f_X1_repair ma_stitchesAhead ma_broken ma_brokeAt ma_stitches ma_headCount ma_place p1 = some (R0, R_ma_broken, R_ma_stitches)) :
    Met l yX1_repair (Cond.code yX1_repair cX1_repair 3 (some .int) :: wsL_law) rmX1_repair (zPre D ad N (zT cI cZ cF cL cD) σ0 sz [.ref (ad 14), .int (zI p1)]) (zQi D ad N sz (fun r σ' => r = zI R0 ∧ σ' 16 = .inl (cZ, 4, .inl (zA R_ma_broken)) ∧ σ' 18 = .inl (cI, 4, .inl (zA R_ma_stitches)) ∧ ∀ i : Nat, i ≠ 16 → i ≠ 18 → σ' i = σ0 i)) 0 0 (zFr ad N sz) := by
  refine zMet hI (plainFor_of_name (by decide)) (Nat.le_of_ble_eq_true rfl) ⟨rfl, rfl⟩ ?_
  intro p e s m args below meth c Q hx hb hr hlocks hml hown hts hK hsz hQ hH hA ls hl
  subst hsz
  have hk_ma : 14 < N := by omega
  have hk_ma_stitchesAhead : 15 < N := by omega
  have hk_ma_broken : 16 < N := by omega
  have hk_ma_brokeAt : 17 < N := by omega
  have hk_ma_stitches : 18 < N := by omega
  have hl : lv_has ls 3 [(0, .ref (ad 14)), (1, .int (zI p1))] := hl
  have hbg : ∀ i : Nat, i ≠ 16 → i ≠ 18 → σ0 i = σ0 i := fun _ _ _ => rfl
  unfold f_X1_repair at hf
  refine lv_aload_n hx hb dX1_repair_0 rfl (lv_at hl 0 rfl) ?_
  refine lv_iload_n hx hb dX1_repair_1 rfl (lv_at hl 1 rfl) ?_
  obtain ⟨r1, k2, hf⟩ := zb1_some hf
  refine zcVi (C := RX1) (As := [.int (zI p1)]) (rest := []) hx hb hml hown hts hl.1 hK hH hA (c_X1_has hI hN  h_ma h_ma_broken h_ma_brokeAt h_ma_stitches k2) zk_t4_31 zk_t2_219 zk_t2_220 zk_t1_5 zk_t2_221 hd_X1_has rfl ⟨rfl, rfl, Nat.le_of_ble_eq_true rfl, Nat.le_of_ble_eq_true rfl⟩ ⟨Nat.zero_le _, Nat.zero_le _⟩ hk_ma h_ma rfl rfl rfl (Nat.le_of_ble_eq_true rfl) dX1_repair_2 (fun q4 σ3 Hσ3 lσ3 hp hH => ?_)
  obtain ⟨hr1, hs1⟩ := hp; subst hr1; rw [hs1] at hH
  obtain ⟨k5, hf⟩ := zck_some hf
  refine lz_if_ne (tgt := 10) hx hb k5 dX1_repair_5 (by decide) (fun c6 => ?_) (fun c6 => ?_)
  · replace hf := (if_neg c6).symm.trans hf
    refine lv_aload_n hx hb dX1_repair_10 rfl (lv_at hl 0 rfl) ?_
    refine lv_iconst (v := zI 0) hx hb dX1_repair_11 (by decide +kernel) ?_
    refine lv_aload_n hx hb dX1_repair_12 rfl (lv_at hl 0 rfl) ?_
    refine zget hx hb inlX1 rfl 2 rfl zk_t1_124 hts hown hK hH hk_ma h_ma rfl dX1_repair_13 ?_
    refine lv_iload_n hx hb dX1_repair_16 rfl (lv_at hl 1 rfl) ?_
    obtain ⟨k7, hf⟩ := zck_some hf
    refine ziald hx hb hK hH hk_ma_brokeAt 0 h_ma_brokeAt rfl k7 rfl dX1_repair_17 ?_
    refine lv_iconst (v := zI 3) hx hb dX1_repair_18 (by decide +kernel) ?_
    refine lz_isub hx hb dX1_repair_19 ?_
    obtain ⟨k8, hf⟩ := zck_some hf
    refine lz_mmax hx hb (hml.trans hl.1.symm) hown hts zk_t4_59 zk_t1_213 zk_t1_6 zk_t1_214 ⟨Nat.le_of_ble_eq_true rfl, Nat.le_of_ble_eq_true rfl⟩ ⟨Nat.zero_le _, Nat.zero_le _⟩ ⟨by decide, k8⟩ dX1_repair_20 ?_
    refine lv_aload_n hx hb dX1_repair_23 rfl (lv_at hl 0 rfl) ?_
    refine zget hx hb inlX1 rfl 7 rfl zk_t1_131 hts hown hK hH hk_ma h_ma rfl dX1_repair_24 ?_
    obtain ⟨r9, k10, hf⟩ := zb1_some hf
    refine zcVi (C := RX1) (As := [.int (zI (max 0 ((ma_brokeAt p1) - 3))), .int (zI ma_place)]) (rest := []) hx hb hml hown hts hl.1 hK hH hA (c_X1_stitchesBetween hI hN  h_ma h_ma_stitchesAhead k10) zk_t4_36 zk_t4_38 zk_s2_12 zk_t1_5 zk_t4_39 hd_X1_stitchesBetween rfl ⟨rfl, rfl, Nat.le_of_ble_eq_true rfl, Nat.le_of_ble_eq_true rfl⟩ ⟨Nat.zero_le _, Nat.zero_le _⟩ hk_ma h_ma rfl rfl rfl (Nat.le_of_ble_eq_true rfl) dX1_repair_27 (fun q12 σ11 Hσ11 lσ11 hp hH => ?_)
    obtain ⟨hr1, hs1⟩ := hp; subst hr1; rw [hs1] at hH
    refine lv_istore_n (lv' := [(2, .int (zI r9)), (0, .ref (ad 14)), (1, .int (zI p1))]) hx hb dX1_repair_30 rfl hl (by decide) rfl (fun ls hl => ?_)
    refine lv_aload_n hx hb dX1_repair_31 rfl (lv_at hl 1 rfl) ?_
    refine zget hx hb inlX1 rfl 1 rfl zk_t1_122 hts hown hK hH hk_ma h_ma rfl dX1_repair_32 ?_
    refine lv_iload_n hx hb dX1_repair_35 rfl (lv_at hl 2 rfl) ?_
    refine lv_iconst (v := zI 0) hx hb dX1_repair_36 (by decide +kernel) ?_
    obtain ⟨k13, hf⟩ := zck_some hf
    obtain ⟨a15, ea15, hf⟩ := zlt_some hf
    refine zzast hx hb hK hH hk_ma_broken 1 h_ma_broken rfl k13 (Or.inl rfl) rfl dX1_repair_37 (fun σ14 Hσ14 lσ14 h_ma_broken hn hH => ?_)
    rw [← ea15] at h_ma_broken
    have h_ma := (hn 14 (by decide)).trans h_ma
    have h_ma_stitchesAhead := (hn 15 (by decide)).trans h_ma_stitchesAhead
    have h_ma_brokeAt := (hn 17 (by decide)).trans h_ma_brokeAt
    have h_ma_stitches := (hn 18 (by decide)).trans h_ma_stitches
    have hbg : ∀ i : Nat, i ≠ 16 → i ≠ 18 → σ14 i = σ0 i := fun i a0 a1 => (hn i a0).trans (hbg i a0 a1)
    refine lv_aload_n hx hb dX1_repair_38 rfl (lv_at hl 1 rfl) ?_
    refine zget hx hb inlX1 rfl 3 rfl zk_t1_125 hts hown hK hH hk_ma h_ma rfl dX1_repair_39 ?_
    refine lv_iload_n hx hb dX1_repair_42 rfl (lv_at hl 2 rfl) ?_
    refine lv_dup2_11 hx hb dX1_repair_43 rfl rfl ?_
    obtain ⟨k16, hf⟩ := zck_some hf
    refine ziald hx hb hK hH hk_ma_stitches 0 h_ma_stitches rfl k16 rfl dX1_repair_44 ?_
    refine lv_iload_n hx hb dX1_repair_45 rfl (lv_at hl 0 rfl) ?_
    refine lz_iadd hx hb dX1_repair_46 ?_
    obtain ⟨k17, hf⟩ := zck_some hf
    obtain ⟨a19, ea19, hf⟩ := zlt_some hf
    refine ziast hx hb hK hH hk_ma_stitches 0 h_ma_stitches rfl k17 rfl dX1_repair_47 (fun σ18 Hσ18 lσ18 h_ma_stitches hn hH => ?_)
    rw [← ea19] at h_ma_stitches
    have h_ma := (hn 14 (by decide)).trans h_ma
    have h_ma_stitchesAhead := (hn 15 (by decide)).trans h_ma_stitchesAhead
    have h_ma_broken := (hn 16 (by decide)).trans h_ma_broken
    have h_ma_brokeAt := (hn 17 (by decide)).trans h_ma_brokeAt
    have hbg : ∀ i : Nat, i ≠ 16 → i ≠ 18 → σ18 i = σ0 i := fun i a0 a1 => (hn i a1).trans (hbg i a0 a1)
    refine lv_iload_n hx hb dX1_repair_48 rfl (lv_at hl 0 rfl) ?_
    cases hf
    exact zreti hx hb hr hlocks hQ hH ⟨rfl, h_ma_broken, h_ma_stitches, hbg⟩ dX1_repair_49
  · replace hf := (if_pos c6).symm.trans hf
    refine lv_iconst (v := zI 0) hx hb dX1_repair_8 (by decide +kernel) ?_
    cases hf
    exact zreti hx hb hr hlocks hQ hH ⟨rfl, h_ma_broken, h_ma_stitches, hbg⟩ dX1_repair_9
