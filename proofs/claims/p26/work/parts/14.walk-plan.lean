abbrev rmX3_told : Room := { frames := 0, cells := 0, slots := 0, locals := 0 }
theorem hd_X3_told : yX3_told.cls = RX3 ∧ yX3_told.cls ≠ "java/lang/invoke/MethodHandle" ∧ yX3_told.cls ≠ "java/lang/invoke/VarHandle" ∧ (parseMethodDescriptor yX3_told.desc).map (fun d => d.parameters.length) = some 2 := by decide +kernel
set_option maxHeartbeats 4000000 in
set_option maxRecDepth 100000 in
theorem c_X3_told {l : Launch} {D : va_G} {cI cZ cF cL cD : ClassId} {ad : Nat → Nat} {N : Nat} (hI : ∀ i j, i < N → j < N → ad i = ad j → i = j) (hN : 19 ≤ N) {σ0 : Nat → va_E} {sz : Nat} {pl_kinds : Int → Int} {pl_differencesX : Int → Int} {pl_differencesY : Int → Int} {pl_owners : Int → Int} {pl_size : Int} {pl_seconds : UInt32} {pl_needleX : Int} {pl_needleY : Int} {pl_colour : Int} {p1 : Int} {p2 : Int} {R0 : Int} (h_pl : σ0 3 = oC_pl ad pl_size pl_seconds pl_needleX pl_needleY pl_colour) (h_pl_kinds : σ0 4 = .inl (cI, 16641, .inl (zA pl_kinds))) (h_pl_differencesX : σ0 5 = .inl (cI, 16641, .inl (zA pl_differencesX))) (h_pl_differencesY : σ0 6 = .inl (cI, 16641, .inl (zA pl_differencesY))) (h_pl_owners : σ0 7 = .inl (cI, 16641, .inl (zA pl_owners))) (hf : f_X3_told pl_kinds pl_differencesX pl_differencesY pl_owners p1 p2 = some R0) :
    Met l yX3_told (Cond.code yX3_told cX3_told 3 (some .int) :: wsL_law) rmX3_told (zPre D ad N (zT cI cZ cF cL cD) σ0 sz [.ref (ad 3), .int (zI p1), .int (zI p2)]) (zQi D ad N sz (fun r σ' => r = zI R0 ∧ σ' = σ0)) 0 0 (zFr ad N sz) := by
  refine zMet hI (plainFor_of_name (by decide)) (Nat.le_of_ble_eq_true rfl) ⟨rfl, rfl⟩ ?_
  intro p e s m args below meth c Q hx hb hr hlocks hml hown hts hK hsz hQ hH hA ls hl
  subst hsz
  have hk_pl : 3 < N := by omega
  have hk_pl_kinds : 4 < N := by omega
  have hk_pl_differencesX : 5 < N := by omega
  have hk_pl_differencesY : 6 < N := by omega
  have hk_pl_owners : 7 < N := by omega
  have hl : lv_has ls 3 [(0, .ref (ad 3)), (1, .int (zI p1)), (2, .int (zI p2))] := hl
  have hbg : σ0 = σ0 := rfl
  unfold f_X3_told at hf
  refine lv_iload_n hx hb dX3_told_0 rfl (lv_at hl 1 rfl) ?_
  obtain ⟨k1, hf⟩ := zck_some hf
  refine lz_if_lt (tgt := 40) hx hb k1 dX3_told_1 (by decide) (fun c2 => ?_) (fun c2 => ?_)
  · replace hf := (if_pos c2).symm.trans hf
    refine lv_iconst (v := zI (-1)) hx hb dX3_told_40 (by decide +kernel) ?_
    cases hf
    exact zreti hx hb hr hlocks hQ hH ⟨rfl, hbg⟩ dX3_told_41
  · replace hf := (if_neg c2).symm.trans hf
    refine lv_iload_n hx hb dX3_told_4 rfl (lv_at hl 1 rfl) ?_
    refine lv_aload_n hx hb dX3_told_5 rfl (lv_at hl 0 rfl) ?_
    refine zget hx hb inlX3 rfl 0 rfl zk_t1_31 hts hown hK hH hk_pl h_pl rfl dX3_told_6 ?_
    refine zalen (z := 16641) hx hb hK hH hk_pl_kinds 0 h_pl_kinds rfl (show Int32.ofNat 16641 = zI 16641 by decide +kernel) dX3_told_9 ?_
    obtain ⟨k3, hf⟩ := zck_some hf
    refine lz_icmp_ge (tgt := 40) hx hb ⟨k3, by decide⟩ dX3_told_10 (by decide) (fun c4 => ?_) (fun c4 => ?_)
    · replace hf := (if_pos c4).symm.trans hf
      refine lv_iconst (v := zI (-1)) hx hb dX3_told_40 (by decide +kernel) ?_
      cases hf
      exact zreti hx hb hr hlocks hQ hH ⟨rfl, hbg⟩ dX3_told_41
    · replace hf := (if_neg c4).symm.trans hf
      refine lv_iload_n hx hb dX3_told_13 rfl (lv_at hl 1 rfl) ?_
      refine lv_aload_n hx hb dX3_told_14 rfl (lv_at hl 0 rfl) ?_
      refine zget hx hb inlX3 rfl 1 rfl zk_t1_32 hts hown hK hH hk_pl h_pl rfl dX3_told_15 ?_
      refine zalen (z := 16641) hx hb hK hH hk_pl_differencesX 0 h_pl_differencesX rfl (show Int32.ofNat 16641 = zI 16641 by decide +kernel) dX3_told_18 ?_
      obtain ⟨k5, hf⟩ := zck_some hf
      refine lz_icmp_ge (tgt := 40) hx hb ⟨k5, by decide⟩ dX3_told_19 (by decide) (fun c6 => ?_) (fun c6 => ?_)
      · replace hf := (if_pos c6).symm.trans hf
        refine lv_iconst (v := zI (-1)) hx hb dX3_told_40 (by decide +kernel) ?_
        cases hf
        exact zreti hx hb hr hlocks hQ hH ⟨rfl, hbg⟩ dX3_told_41
      · replace hf := (if_neg c6).symm.trans hf
        refine lv_iload_n hx hb dX3_told_22 rfl (lv_at hl 1 rfl) ?_
        refine lv_aload_n hx hb dX3_told_23 rfl (lv_at hl 0 rfl) ?_
        refine zget hx hb inlX3 rfl 2 rfl zk_t1_33 hts hown hK hH hk_pl h_pl rfl dX3_told_24 ?_
        refine zalen (z := 16641) hx hb hK hH hk_pl_differencesY 0 h_pl_differencesY rfl (show Int32.ofNat 16641 = zI 16641 by decide +kernel) dX3_told_27 ?_
        obtain ⟨k7, hf⟩ := zck_some hf
        refine lz_icmp_ge (tgt := 40) hx hb ⟨k7, by decide⟩ dX3_told_28 (by decide) (fun c8 => ?_) (fun c8 => ?_)
        · replace hf := (if_pos c8).symm.trans hf
          refine lv_iconst (v := zI (-1)) hx hb dX3_told_40 (by decide +kernel) ?_
          cases hf
          exact zreti hx hb hr hlocks hQ hH ⟨rfl, hbg⟩ dX3_told_41
        · replace hf := (if_neg c8).symm.trans hf
          refine lv_iload_n hx hb dX3_told_31 rfl (lv_at hl 1 rfl) ?_
          refine lv_aload_n hx hb dX3_told_32 rfl (lv_at hl 0 rfl) ?_
          refine zget hx hb inlX3 rfl 3 rfl zk_t1_34 hts hown hK hH hk_pl h_pl rfl dX3_told_33 ?_
          refine zalen (z := 16641) hx hb hK hH hk_pl_owners 0 h_pl_owners rfl (show Int32.ofNat 16641 = zI 16641 by decide +kernel) dX3_told_36 ?_
          obtain ⟨k9, hf⟩ := zck_some hf
          refine lz_icmp_lt (tgt := 42) hx hb ⟨k9, by decide⟩ dX3_told_37 (by decide) (fun c10 => ?_) (fun c10 => ?_)
          · replace hf := (if_pos c10).symm.trans hf
            refine lv_iload_n hx hb dX3_told_42 rfl (lv_at hl 2 rfl) ?_
            obtain ⟨k11, hf⟩ := zck_some hf
            by_cases c12_0 : p2 = 0
            · replace hf := (if_pos c12_0).symm.trans hf
              refine lv_tableIn (tgt := 68) (off := 25) hx hb dX3_told_43 (by rw [zI_toInt k11]; omega) (by rw [zI_toInt k11]; omega) (by rw [zI_toInt k11, c12_0]; rfl) (by decide) ?_
              refine lv_aload_n hx hb dX3_told_68 rfl (lv_at hl 0 rfl) ?_
              refine zget hx hb inlX3 rfl 0 rfl zk_t1_31 hts hown hK hH hk_pl h_pl rfl dX3_told_69 ?_
              refine lv_iload_n hx hb dX3_told_72 rfl (lv_at hl 1 rfl) ?_
              obtain ⟨k13, hf⟩ := zck_some hf
              refine ziald hx hb hK hH hk_pl_kinds 0 h_pl_kinds rfl k13 rfl dX3_told_73 ?_
              cases hf
              exact zreti hx hb hr hlocks hQ hH ⟨rfl, hbg⟩ dX3_told_74
            replace hf := (if_neg c12_0).symm.trans hf
            by_cases c12_1 : p2 = 1
            · replace hf := (if_pos c12_1).symm.trans hf
              refine lv_tableIn (tgt := 75) (off := 32) hx hb dX3_told_43 (by rw [zI_toInt k11]; omega) (by rw [zI_toInt k11]; omega) (by rw [zI_toInt k11, c12_1]; rfl) (by decide) ?_
              refine lv_aload_n hx hb dX3_told_75 rfl (lv_at hl 0 rfl) ?_
              refine zget hx hb inlX3 rfl 1 rfl zk_t1_32 hts hown hK hH hk_pl h_pl rfl dX3_told_76 ?_
              refine lv_iload_n hx hb dX3_told_79 rfl (lv_at hl 1 rfl) ?_
              obtain ⟨k14, hf⟩ := zck_some hf
              refine ziald hx hb hK hH hk_pl_differencesX 0 h_pl_differencesX rfl k14 rfl dX3_told_80 ?_
              cases hf
              exact zreti hx hb hr hlocks hQ hH ⟨rfl, hbg⟩ dX3_told_81
            replace hf := (if_neg c12_1).symm.trans hf
            by_cases c12_2 : p2 = 2
            · replace hf := (if_pos c12_2).symm.trans hf
              refine lv_tableIn (tgt := 82) (off := 39) hx hb dX3_told_43 (by rw [zI_toInt k11]; omega) (by rw [zI_toInt k11]; omega) (by rw [zI_toInt k11, c12_2]; rfl) (by decide) ?_
              refine lv_aload_n hx hb dX3_told_82 rfl (lv_at hl 0 rfl) ?_
              refine zget hx hb inlX3 rfl 2 rfl zk_t1_33 hts hown hK hH hk_pl h_pl rfl dX3_told_83 ?_
              refine lv_iload_n hx hb dX3_told_86 rfl (lv_at hl 1 rfl) ?_
              obtain ⟨k15, hf⟩ := zck_some hf
              refine ziald hx hb hK hH hk_pl_differencesY 0 h_pl_differencesY rfl k15 rfl dX3_told_87 ?_
              cases hf
              exact zreti hx hb hr hlocks hQ hH ⟨rfl, hbg⟩ dX3_told_88
            replace hf := (if_neg c12_2).symm.trans hf
            refine lv_tableOut (tgt := 89) hx hb dX3_told_43 (by rw [zI_toInt k11]; omega) (by decide) ?_
            refine lv_aload_n hx hb dX3_told_89 rfl (lv_at hl 0 rfl) ?_
            refine zget hx hb inlX3 rfl 3 rfl zk_t1_34 hts hown hK hH hk_pl h_pl rfl dX3_told_90 ?_
            refine lv_iload_n hx hb dX3_told_93 rfl (lv_at hl 1 rfl) ?_
            obtain ⟨k16, hf⟩ := zck_some hf
            refine ziald hx hb hK hH hk_pl_owners 0 h_pl_owners rfl k16 rfl dX3_told_94 ?_
            cases hf
            exact zreti hx hb hr hlocks hQ hH ⟨rfl, hbg⟩ dX3_told_95
          · replace hf := (if_neg c10).symm.trans hf
            refine lv_iconst (v := zI (-1)) hx hb dX3_told_40 (by decide +kernel) ?_
            cases hf
            exact zreti hx hb hr hlocks hQ hH ⟨rfl, hbg⟩ dX3_told_41
abbrev rmX3_begin : Room := { frames := 0, cells := 0, slots := 0, locals := 0 }
theorem hd_X3_begin : yX3_begin.cls = RX3 ∧ yX3_begin.cls ≠ "java/lang/invoke/MethodHandle" ∧ yX3_begin.cls ≠ "java/lang/invoke/VarHandle" ∧ (parseMethodDescriptor yX3_begin.desc).map (fun d => d.parameters.length) = some 0 := by decide +kernel
set_option maxHeartbeats 4000000 in
set_option maxRecDepth 100000 in
theorem c_X3_begin {l : Launch} {D : va_G} {cI cZ cF cL cD : ClassId} {ad : Nat → Nat} {N : Nat} (hI : ∀ i j, i < N → j < N → ad i = ad j → i = j) (hN : 19 ≤ N) {σ0 : Nat → va_E} {sz : Nat} {pl_kindCounts : Int → Int} {pl_threads : Int → Int} {pl_size : Int} {pl_seconds : UInt32} {pl_needleX : Int} {pl_needleY : Int} {pl_colour : Int} {R_pl_kindCounts : Int → Int} {R_pl_threads : Int → Int} {R_pl_size : Int} {R_pl_seconds : UInt32} {R_pl_needleX : Int} {R_pl_needleY : Int} {R_pl_colour : Int} (h_pl : σ0 3 = oC_pl ad pl_size pl_seconds pl_needleX pl_needleY pl_colour) (h_pl_kindCounts : σ0 8 = .inl (cI, 5, .inl (zA pl_kindCounts))) (h_pl_threads : σ0 9 = .inl (cI, 6, .inl (zA pl_threads))) (hf : f_X3_begin pl_kindCounts pl_threads pl_size pl_seconds pl_needleX pl_needleY pl_colour = some (R_pl_kindCounts, R_pl_threads, R_pl_size, R_pl_seconds, R_pl_needleX, R_pl_needleY, R_pl_colour)) :
    Met l yX3_begin (Cond.code yX3_begin cX3_begin 2 none :: wsL_law) rmX3_begin (zPre D ad N (zT cI cZ cF cL cD) σ0 sz [.ref (ad 3)]) (zQv D ad N sz (fun σ' => σ' 3 = oC_pl ad R_pl_size R_pl_seconds R_pl_needleX R_pl_needleY R_pl_colour ∧ σ' 8 = .inl (cI, 5, .inl (zA R_pl_kindCounts)) ∧ σ' 9 = .inl (cI, 6, .inl (zA R_pl_threads)) ∧ ∀ i : Nat, i ≠ 3 → i ≠ 8 → i ≠ 9 → σ' i = σ0 i)) 0 0 (zFr ad N sz) := by
  refine zMet hI (plainFor_of_name (by decide)) (Nat.le_of_ble_eq_true rfl) ⟨rfl, rfl⟩ ?_
  intro p e s m args below meth c Q hx hb hr hlocks hml hown hts hK hsz hQ hH hA ls hl
  subst hsz
  have hk_pl : 3 < N := by omega
  have hk_pl_kindCounts : 8 < N := by omega
  have hk_pl_threads : 9 < N := by omega
  have hl : lv_has ls 2 [(0, .ref (ad 3))] := hl
  have hbg : ∀ i : Nat, i ≠ 3 → i ≠ 8 → i ≠ 9 → σ0 i = σ0 i := fun _ _ _ _ => rfl
  have L51 : ∀ (pl_kindCounts : Int → Int) (pl_size : Int) (pl_seconds : UInt32) (pl_needleX : Int) (pl_needleY : Int) (pl_colour : Int)  (n : Nat) (x1 : Int) (pl_threads : Int → Int) (x1' : Int) (pl_threads' : Int → Int), zlp (fun z => f_X3_begin_L51 pl_kindCounts pl_size pl_seconds pl_needleX pl_needleY pl_colour z.1 z.2) n (x1, pl_threads) = some (x1', pl_threads') → ∀ (σ : Nat → va_E) (H : Heap) (locs : List Loc) (hH : zH D ad N (zFr ad N s.heap.size) s.heap σ H locs) (h_pl : σ 3 = oC_pl ad pl_size pl_seconds pl_needleX pl_needleY pl_colour) (h_pl_kindCounts : σ 8 = .inl (cI, 5, .inl (zA pl_kindCounts))) (h_pl_threads : σ 9 = .inl (cI, 6, .inl (zA pl_threads))) (hbg : ∀ i : Nat, i ≠ 3 → i ≠ 8 → i ≠ 9 → σ i = σ0 i) (ls : Array Slot) (hl : lv_has ls 2 [(0, .ref (ad 3)), (1, .int (zI x1))]), (∀ (σ : Nat → va_E) (H : Heap) (locs : List Loc) (hH : zH D ad N (zFr ad N s.heap.size) s.heap σ H locs) (h_pl : σ 3 = oC_pl ad pl_size pl_seconds pl_needleX pl_needleY pl_colour) (h_pl_kindCounts : σ 8 = .inl (cI, 5, .inl (zA pl_kindCounts))) (h_pl_threads : σ 9 = .inl (cI, 6, .inl (zA (pl_threads')))) (hbg : ∀ i : Nat, i ≠ 3 → i ≠ 8 → i ≠ 9 → σ i = σ0 i) (ls : Array Slot) (hl : lv_has ls 2 []), W p l e rmX3_begin s m args below meth c H locs 0 0 Q (F0 m 73 ls [])) → W p l e rmX3_begin s m args below meth c H locs 0 0 Q (F0 m 51 ls []) := by
    intro pl_kindCounts pl_size pl_seconds pl_needleX pl_needleY pl_colour n
    induction n with
    | zero => intro x1 pl_threads x1' pl_threads' hz; exact (zlp_0 hz).elim
    | succ n ih =>
      intro x1 pl_threads x1' pl_threads' hz σ H locs hH h_pl h_pl_kindCounts h_pl_threads hbg ls hl kx
      obtain ⟨nx, hf, hnx⟩ := zlp_some hz
      have hf : f_X3_begin_L51 pl_kindCounts pl_size pl_seconds pl_needleX pl_needleY pl_colour x1 pl_threads = some nx := hf
      unfold f_X3_begin_L51 at hf
      refine lv_iload_n hx hb dX3_begin_51 rfl (lv_at hl 1 rfl) ?_
      refine lv_aload_n hx hb dX3_begin_52 rfl (lv_at hl 0 rfl) ?_
      refine zget hx hb inlX3 rfl 5 rfl zk_t1_37 hts hown hK hH hk_pl h_pl rfl dX3_begin_53 ?_
      refine zalen (z := 6) hx hb hK hH hk_pl_threads 0 h_pl_threads rfl (show Int32.ofNat 6 = zI 6 by decide +kernel) dX3_begin_56 ?_
      obtain ⟨k1, hf⟩ := zck_some hf
      refine lz_icmp_ge (tgt := 73) hx hb ⟨k1, by decide⟩ dX3_begin_57 (by decide) (fun c2 => ?_) (fun c2 => ?_)
      · replace hf := (if_pos c2).symm.trans hf
        cases hf
        cases hnx
        exact kx _ _ _ hH h_pl h_pl_kindCounts h_pl_threads hbg _ (lv_sub hl [] rfl)
      · replace hf := (if_neg c2).symm.trans hf
        refine lv_aload_n hx hb dX3_begin_60 rfl (lv_at hl 0 rfl) ?_
        refine zget hx hb inlX3 rfl 5 rfl zk_t1_37 hts hown hK hH hk_pl h_pl rfl dX3_begin_61 ?_
        refine lv_iload_n hx hb dX3_begin_64 rfl (lv_at hl 1 rfl) ?_
        refine lv_iconst (v := zI 0) hx hb dX3_begin_65 (by decide +kernel) ?_
        obtain ⟨k3, hf⟩ := zck_some hf
        obtain ⟨a5, ea5, hf⟩ := zlt_some hf
        refine ziast hx hb hK hH hk_pl_threads 0 h_pl_threads rfl k3 rfl dX3_begin_66 (fun σ4 Hσ4 lσ4 h_pl_threads hn hH => ?_)
        rw [← ea5] at h_pl_threads
        have h_pl := (hn 3 (by decide)).trans h_pl
        have h_pl_kindCounts := (hn 8 (by decide)).trans h_pl_kindCounts
        have hbg : ∀ i : Nat, i ≠ 3 → i ≠ 8 → i ≠ 9 → σ4 i = σ0 i := fun i a0 a1 a2 => (hn i a2).trans (hbg i a0 a1 a2)
        refine lz_iinc (lv' := [(1, .int (zI (x1 + 1))), (0, .ref (ad 3))]) hx hb dX3_begin_67 hl (j := 1) rfl (by decide) rfl (fun ls hl => ?_)
        refine lv_goto (tgt := 51) hx hb dX3_begin_70 (by decide) ?_
        cases hf
        exact ih (x1 + 1) a5 _ _ hnx _ _ _ hH h_pl h_pl_kindCounts h_pl_threads hbg _ (lv_sub hl [1, 0] rfl) kx
  have L27 : ∀ (pl_threads : Int → Int) (pl_size : Int) (pl_seconds : UInt32) (pl_needleX : Int) (pl_needleY : Int) (pl_colour : Int)  (n : Nat) (x1 : Int) (pl_kindCounts : Int → Int) (x1' : Int) (pl_kindCounts' : Int → Int), zlp (fun z => f_X3_begin_L27 pl_threads pl_size pl_seconds pl_needleX pl_needleY pl_colour z.1 z.2) n (x1, pl_kindCounts) = some (x1', pl_kindCounts') → ∀ (σ : Nat → va_E) (H : Heap) (locs : List Loc) (hH : zH D ad N (zFr ad N s.heap.size) s.heap σ H locs) (h_pl : σ 3 = oC_pl ad pl_size pl_seconds pl_needleX pl_needleY pl_colour) (h_pl_kindCounts : σ 8 = .inl (cI, 5, .inl (zA pl_kindCounts))) (h_pl_threads : σ 9 = .inl (cI, 6, .inl (zA pl_threads))) (hbg : ∀ i : Nat, i ≠ 3 → i ≠ 8 → i ≠ 9 → σ i = σ0 i) (ls : Array Slot) (hl : lv_has ls 2 [(0, .ref (ad 3)), (1, .int (zI x1))]), (∀ (σ : Nat → va_E) (H : Heap) (locs : List Loc) (hH : zH D ad N (zFr ad N s.heap.size) s.heap σ H locs) (h_pl : σ 3 = oC_pl ad pl_size pl_seconds pl_needleX pl_needleY pl_colour) (h_pl_kindCounts : σ 8 = .inl (cI, 5, .inl (zA (pl_kindCounts')))) (h_pl_threads : σ 9 = .inl (cI, 6, .inl (zA pl_threads))) (hbg : ∀ i : Nat, i ≠ 3 → i ≠ 8 → i ≠ 9 → σ i = σ0 i) (ls : Array Slot) (hl : lv_has ls 2 [(0, .ref (ad 3))]), W p l e rmX3_begin s m args below meth c H locs 0 0 Q (F0 m 49 ls [])) → W p l e rmX3_begin s m args below meth c H locs 0 0 Q (F0 m 27 ls []) := by
    intro pl_threads pl_size pl_seconds pl_needleX pl_needleY pl_colour n
    induction n with
    | zero => intro x1 pl_kindCounts x1' pl_kindCounts' hz; exact (zlp_0 hz).elim
    | succ n ih =>
      intro x1 pl_kindCounts x1' pl_kindCounts' hz σ H locs hH h_pl h_pl_kindCounts h_pl_threads hbg ls hl kx
      obtain ⟨nx, hf, hnx⟩ := zlp_some hz
      have hf : f_X3_begin_L27 pl_threads pl_size pl_seconds pl_needleX pl_needleY pl_colour x1 pl_kindCounts = some nx := hf
      unfold f_X3_begin_L27 at hf
      refine lv_iload_n hx hb dX3_begin_27 rfl (lv_at hl 1 rfl) ?_
      refine lv_aload_n hx hb dX3_begin_28 rfl (lv_at hl 0 rfl) ?_
      refine zget hx hb inlX3 rfl 4 rfl zk_t1_35 hts hown hK hH hk_pl h_pl rfl dX3_begin_29 ?_
      refine zalen (z := 5) hx hb hK hH hk_pl_kindCounts 0 h_pl_kindCounts rfl (show Int32.ofNat 5 = zI 5 by decide +kernel) dX3_begin_32 ?_
      obtain ⟨k6, hf⟩ := zck_some hf
      refine lz_icmp_ge (tgt := 49) hx hb ⟨k6, by decide⟩ dX3_begin_33 (by decide) (fun c7 => ?_) (fun c7 => ?_)
      · replace hf := (if_pos c7).symm.trans hf
        cases hf
        cases hnx
        exact kx _ _ _ hH h_pl h_pl_kindCounts h_pl_threads hbg _ (lv_sub hl [0] rfl)
      · replace hf := (if_neg c7).symm.trans hf
        refine lv_aload_n hx hb dX3_begin_36 rfl (lv_at hl 0 rfl) ?_
        refine zget hx hb inlX3 rfl 4 rfl zk_t1_35 hts hown hK hH hk_pl h_pl rfl dX3_begin_37 ?_
        refine lv_iload_n hx hb dX3_begin_40 rfl (lv_at hl 1 rfl) ?_
        refine lv_iconst (v := zI 0) hx hb dX3_begin_41 (by decide +kernel) ?_
        obtain ⟨k8, hf⟩ := zck_some hf
        obtain ⟨a10, ea10, hf⟩ := zlt_some hf
        refine ziast hx hb hK hH hk_pl_kindCounts 0 h_pl_kindCounts rfl k8 rfl dX3_begin_42 (fun σ9 Hσ9 lσ9 h_pl_kindCounts hn hH => ?_)
        rw [← ea10] at h_pl_kindCounts
        have h_pl := (hn 3 (by decide)).trans h_pl
        have h_pl_threads := (hn 9 (by decide)).trans h_pl_threads
        have hbg : ∀ i : Nat, i ≠ 3 → i ≠ 8 → i ≠ 9 → σ9 i = σ0 i := fun i a0 a1 a2 => (hn i a1).trans (hbg i a0 a1 a2)
        refine lz_iinc (lv' := [(1, .int (zI (x1 + 1))), (0, .ref (ad 3))]) hx hb dX3_begin_43 hl (j := 1) rfl (by decide) rfl (fun ls hl => ?_)
        refine lv_goto (tgt := 27) hx hb dX3_begin_46 (by decide) ?_
        cases hf
        exact ih (x1 + 1) a10 _ _ hnx _ _ _ hH h_pl h_pl_kindCounts h_pl_threads hbg _ (lv_sub hl [1, 0] rfl) kx
  unfold f_X3_begin at hf
  refine lv_aload_n hx hb dX3_begin_0 rfl (lv_at hl 0 rfl) ?_
  refine lv_iconst (v := zI 0) hx hb dX3_begin_1 (by decide +kernel) ?_
  refine zput hx hb inlX3 tyX3 tyX3_ok nmX3 rfl 6 rfl zk_t1_39 rfl hts hown hK hH hk_pl h_pl rfl rfl rfl dX3_begin_2 (fun σ11 Hσ11 lσ11 h_pl hn hH => ?_)
  have h_pl : σ11 3 = oC_pl ad 0 pl_seconds pl_needleX pl_needleY pl_colour := h_pl
  have h_pl_kindCounts := (hn 8 (by decide)).trans h_pl_kindCounts
  have h_pl_threads := (hn 9 (by decide)).trans h_pl_threads
  have hbg : ∀ i : Nat, i ≠ 3 → i ≠ 8 → i ≠ 9 → σ11 i = σ0 i := fun i a0 a1 a2 => (hn i a0).trans (hbg i a0 a1 a2)
  refine lv_aload_n hx hb dX3_begin_5 rfl (lv_at hl 0 rfl) ?_
  refine lv_fconst0 hx hb dX3_begin_6 ?_
  refine zput hx hb inlX3 tyX3 tyX3_ok nmX3 rfl 7 rfl zk_t1_43 rfl hts hown hK hH hk_pl h_pl rfl rfl rfl dX3_begin_7 (fun σ12 Hσ12 lσ12 h_pl hn hH => ?_)
  have h_pl : σ12 3 = oC_pl ad 0 0 pl_needleX pl_needleY pl_colour := h_pl
  have h_pl_kindCounts := (hn 8 (by decide)).trans h_pl_kindCounts
  have h_pl_threads := (hn 9 (by decide)).trans h_pl_threads
  have hbg : ∀ i : Nat, i ≠ 3 → i ≠ 8 → i ≠ 9 → σ12 i = σ0 i := fun i a0 a1 a2 => (hn i a0).trans (hbg i a0 a1 a2)
  refine lv_aload_n hx hb dX3_begin_10 rfl (lv_at hl 0 rfl) ?_
  refine lv_iconst (v := zI 0) hx hb dX3_begin_11 (by decide +kernel) ?_
  refine zput hx hb inlX3 tyX3 tyX3_ok nmX3 rfl 8 rfl zk_t1_45 rfl hts hown hK hH hk_pl h_pl rfl rfl rfl dX3_begin_12 (fun σ13 Hσ13 lσ13 h_pl hn hH => ?_)
  have h_pl : σ13 3 = oC_pl ad 0 0 0 pl_needleY pl_colour := h_pl
  have h_pl_kindCounts := (hn 8 (by decide)).trans h_pl_kindCounts
  have h_pl_threads := (hn 9 (by decide)).trans h_pl_threads
  have hbg : ∀ i : Nat, i ≠ 3 → i ≠ 8 → i ≠ 9 → σ13 i = σ0 i := fun i a0 a1 a2 => (hn i a0).trans (hbg i a0 a1 a2)
  refine lv_aload_n hx hb dX3_begin_15 rfl (lv_at hl 0 rfl) ?_
  refine lv_iconst (v := zI 0) hx hb dX3_begin_16 (by decide +kernel) ?_
  refine zput hx hb inlX3 tyX3 tyX3_ok nmX3 rfl 9 rfl zk_t1_46 rfl hts hown hK hH hk_pl h_pl rfl rfl rfl dX3_begin_17 (fun σ14 Hσ14 lσ14 h_pl hn hH => ?_)
  have h_pl : σ14 3 = oC_pl ad 0 0 0 0 pl_colour := h_pl
  have h_pl_kindCounts := (hn 8 (by decide)).trans h_pl_kindCounts
  have h_pl_threads := (hn 9 (by decide)).trans h_pl_threads
  have hbg : ∀ i : Nat, i ≠ 3 → i ≠ 8 → i ≠ 9 → σ14 i = σ0 i := fun i a0 a1 a2 => (hn i a0).trans (hbg i a0 a1 a2)
  refine lv_aload_n hx hb dX3_begin_20 rfl (lv_at hl 0 rfl) ?_
  refine lv_iconst (v := zI (-1)) hx hb dX3_begin_21 (by decide +kernel) ?_
  refine zput hx hb inlX3 tyX3 tyX3_ok nmX3 rfl 10 rfl zk_t1_47 rfl hts hown hK hH hk_pl h_pl rfl rfl rfl dX3_begin_22 (fun σ15 Hσ15 lσ15 h_pl hn hH => ?_)
  have h_pl : σ15 3 = oC_pl ad 0 0 0 0 (-1) := h_pl
  have h_pl_kindCounts := (hn 8 (by decide)).trans h_pl_kindCounts
  have h_pl_threads := (hn 9 (by decide)).trans h_pl_threads
  have hbg : ∀ i : Nat, i ≠ 3 → i ≠ 8 → i ≠ 9 → σ15 i = σ0 i := fun i a0 a1 a2 => (hn i a0).trans (hbg i a0 a1 a2)
  refine lv_iconst (v := zI 0) hx hb dX3_begin_25 (by decide +kernel) ?_
  refine lv_istore_n (lv' := [(1, .int (zI 0)), (0, .ref (ad 3))]) hx hb dX3_begin_26 rfl hl (by decide) rfl (fun ls hl => ?_)
  obtain ⟨w17, w18, k16, hf⟩ := zb2_some hf
  refine L27 pl_threads 0 0 0 0 (-1) zFU 0 pl_kindCounts w17 w18 k16 _ _ _ hH h_pl h_pl_kindCounts h_pl_threads hbg _ (lv_sub hl [1, 0] rfl) (fun σ19 Hσ19 lσ19 hH h_pl h_pl_kindCounts h_pl_threads hbg ls hl => ?_)
  refine lv_iconst (v := zI 0) hx hb dX3_begin_49 (by decide +kernel) ?_
  refine lv_istore_n (lv' := [(1, .int (zI 0)), (0, .ref (ad 3))]) hx hb dX3_begin_50 rfl hl (by decide) rfl (fun ls hl => ?_)
  obtain ⟨w21, w22, k20, hf⟩ := zb2_some hf
  refine L51 w18 0 0 0 0 (-1) zFU 0 pl_threads w21 w22 k20 _ _ _ hH h_pl h_pl_kindCounts h_pl_threads hbg _ (lv_sub hl [1, 0] rfl) (fun σ23 Hσ23 lσ23 hH h_pl h_pl_kindCounts h_pl_threads hbg ls hl => ?_)
  cases hf
  exact zretv hx hb hr hlocks hQ hH ⟨h_pl, h_pl_kindCounts, h_pl_threads, hbg⟩ dX3_begin_73
abbrev rmX3_squareToFirst : Room := { frames := 1, cells := 0, slots := 0, locals := 20 }
theorem hd_X3_squareToFirst : yX3_squareToFirst.cls = RX3 ∧ yX3_squareToFirst.cls ≠ "java/lang/invoke/MethodHandle" ∧ yX3_squareToFirst.cls ≠ "java/lang/invoke/VarHandle" ∧ (parseMethodDescriptor yX3_squareToFirst.desc).map (fun d => d.parameters.length) = some 1 := by decide +kernel
set_option maxHeartbeats 4000000 in
set_option maxRecDepth 100000 in
theorem c_X3_squareToFirst {l : Launch} {D : va_G} {cI cZ cF cL cD : ClassId} {ad : Nat → Nat} {N : Nat} (hI : ∀ i j, i < N → j < N → ad i = ad j → i = j) (hN : 19 ≤ N) {o : Nat} (ho : 19 ≤ o ∧ o + 7 ≤ N) {σ0 : Nat → va_E} {sz : Nat} {pt_xs : Int → Int} {pt_ys : Int → Int} {pt_size : Int} {pl_size : Int} {pl_seconds : UInt32} {pl_needleX : Int} {pl_needleY : Int} {pl_colour : Int} {R0 : Int} (h_pt : σ0 (o + 4) = oC_pt ad o pt_size) (h_pt_xs : σ0 (o + 5) = .inl (cI, 2078, .inl (zA pt_xs))) (h_pt_ys : σ0 (o + 6) = .inl (cI, 2078, .inl (zA pt_ys))) (h_pl : σ0 3 = oC_pl ad pl_size pl_seconds pl_needleX pl_needleY pl_colour) (hf : f_X3_squareToFirst pt_xs pt_ys pt_size pl_needleX pl_needleY = some R0) :
    Met l yX3_squareToFirst (Cond.code yX3_squareToFirst cX3_squareToFirst 4 (some .int) :: wsL_law) rmX3_squareToFirst (zPre D ad N (zT cI cZ cF cL cD) σ0 sz [.ref (ad 3), .ref (ad (o + 4))]) (zQi D ad N sz (fun r σ' => r = zI R0 ∧ σ' = σ0)) 0 0 (zFr ad N sz) := by
  refine zMet hI (plainFor_of_name (by decide)) (Nat.le_of_ble_eq_true rfl) ⟨rfl, rfl⟩ ?_
  intro p e s m args below meth c Q hx hb hr hlocks hml hown hts hK hsz hQ hH hA ls hl
  subst hsz
  have hk_pt : (o + 4) < N := by omega
  have hk_pt_xs : (o + 5) < N := by omega
  have hk_pt_ys : (o + 6) < N := by omega
  have hk_pl : 3 < N := by omega
  have hl : lv_has ls 4 [(0, .ref (ad 3)), (1, .ref (ad (o + 4)))] := hl
  have hbg : σ0 = σ0 := rfl
  unfold f_X3_squareToFirst at hf
  refine lv_aload_n hx hb dX3_squareToFirst_0 rfl (lv_at hl 1 rfl) ?_
  obtain ⟨r1, k2, hf⟩ := zb1_some hf
  refine zcVi (C := RX4) (As := []) (rest := []) hx hb hml hown hts hl.1 hK hH hA (c_X4_firstX hI hN ho h_pt h_pt_xs k2) zk_t2_48 zk_t2_49 zk_t2_50 zk_t1_14 zk_t2_51 hd_X4_firstX rfl ⟨rfl, rfl, Nat.le_of_ble_eq_true rfl, Nat.le_of_ble_eq_true rfl⟩ ⟨Nat.zero_le _, Nat.zero_le _⟩ hk_pt h_pt rfl rfl rfl (Nat.le_of_ble_eq_true rfl) dX3_squareToFirst_1 (fun q4 σ3 Hσ3 lσ3 hp hH => ?_)
  obtain ⟨hr1, hs1⟩ := hp; subst hr1; rw [hs1] at hH
  refine lv_aload_n hx hb dX3_squareToFirst_4 rfl (lv_at hl 0 rfl) ?_
  refine zget hx hb inlX3 rfl 8 rfl zk_t1_45 hts hown hK hH hk_pl h_pl rfl dX3_squareToFirst_5 ?_
  refine lz_isub hx hb dX3_squareToFirst_8 ?_
  obtain ⟨v5, ev5, hf⟩ := zlt_some hf
  refine lz_nm ev5 ?_
  refine lv_istore_n (lv' := [(2, .int (zI v5)), (0, .ref (ad 3)), (1, .ref (ad (o + 4)))]) hx hb dX3_squareToFirst_9 rfl hl (by decide) rfl (fun ls hl => ?_)
  refine lv_aload_n hx hb dX3_squareToFirst_10 rfl (lv_at hl 2 rfl) ?_
  obtain ⟨r6, k7, hf⟩ := zb1_some hf
  refine zcVi (C := RX4) (As := []) (rest := []) hx hb hml hown hts hl.1 hK hH hA (c_X4_firstY hI hN ho h_pt h_pt_ys k7) zk_t2_52 zk_t2_53 zk_t2_54 zk_t1_14 zk_t2_55 hd_X4_firstY rfl ⟨rfl, rfl, Nat.le_of_ble_eq_true rfl, Nat.le_of_ble_eq_true rfl⟩ ⟨Nat.zero_le _, Nat.zero_le _⟩ hk_pt h_pt rfl rfl rfl (Nat.le_of_ble_eq_true rfl) dX3_squareToFirst_11 (fun q9 σ8 Hσ8 lσ8 hp hH => ?_)
  obtain ⟨hr1, hs1⟩ := hp; subst hr1; rw [hs1] at hH
  refine lv_aload_n hx hb dX3_squareToFirst_14 rfl (lv_at hl 1 rfl) ?_
  refine zget hx hb inlX3 rfl 9 rfl zk_t1_46 hts hown hK hH hk_pl h_pl rfl dX3_squareToFirst_15 ?_
  refine lz_isub hx hb dX3_squareToFirst_18 ?_
  obtain ⟨v10, ev10, hf⟩ := zlt_some hf
  refine lz_nm ev10 ?_
  refine lv_istore_n (lv' := [(3, .int (zI v10)), (2, .int (zI v5)), (0, .ref (ad 3)), (1, .ref (ad (o + 4)))]) hx hb dX3_squareToFirst_19 rfl hl (by decide) rfl (fun ls hl => ?_)
  refine lv_iload_n hx hb dX3_squareToFirst_20 rfl (lv_at hl 1 rfl) ?_
  refine lv_iload_n hx hb dX3_squareToFirst_21 rfl (lv_at hl 1 rfl) ?_
  refine lz_imul hx hb dX3_squareToFirst_22 ?_
  refine lv_iload_n hx hb dX3_squareToFirst_23 rfl (lv_at hl 0 rfl) ?_
  refine lv_iload_n hx hb dX3_squareToFirst_24 rfl (lv_at hl 0 rfl) ?_
  refine lz_imul hx hb dX3_squareToFirst_25 ?_
  refine lz_iadd hx hb dX3_squareToFirst_26 ?_
  cases hf
  exact zreti hx hb hr hlocks hQ hH ⟨rfl, hbg⟩ dX3_squareToFirst_27
abbrev rmX3_secondsOf : Room := { frames := 0, cells := 0, slots := 0, locals := 0 }
theorem hd_X3_secondsOf : yX3_secondsOf.cls ≠ "java/lang/invoke/MethodHandle" ∧ yX3_secondsOf.cls ≠ "java/lang/invoke/VarHandle" ∧ (parseMethodDescriptor yX3_secondsOf.desc).map (fun d => d.parameters.length) = some 2 := by decide +kernel
set_option maxHeartbeats 4000000 in
set_option maxRecDepth 100000 in
theorem c_X3_secondsOf {l : Launch} {D : va_G} {cI cZ cF cL cD : ClassId} {ad : Nat → Nat} {N : Nat} (hI : ∀ i j, i < N → j < N → ad i = ad j → i = j) (hN : 19 ≤ N) {σ0 : Nat → va_E} {sz : Nat} {p0 : Int} {p1 : Int} {R0 : UInt32}  (hf : f_X3_secondsOf p0 p1 = some R0) :
    Met l yX3_secondsOf (Cond.code yX3_secondsOf cX3_secondsOf 2 (some .float) :: wsL_law) rmX3_secondsOf (zPre D ad N (zT cI cZ cF cL cD) σ0 sz [.int (zI p0), .int (zI p1)]) (zQf D ad N sz (fun r σ' => r = R0 ∧ σ' = σ0)) 0 0 (zFr ad N sz) := by
  refine zMet hI (plainFor_of_name (by decide)) (Nat.le_of_ble_eq_true rfl) ⟨rfl, rfl⟩ ?_
  intro p e s m args below meth c Q hx hb hr hlocks hml hown hts hK hsz hQ hH hA ls hl
  subst hsz
  have hl : lv_has ls 2 [(0, .int (zI p0)), (1, .int (zI p1))] := hl
  have hbg : σ0 = σ0 := rfl
  unfold f_X3_secondsOf at hf
  refine lv_iload_n hx hb dX3_secondsOf_0 rfl (lv_at hl 0 rfl) ?_
  obtain ⟨k1, hf⟩ := zck_some hf
  by_cases c2_0 : p0 = 0
  · replace hf := (if_pos c2_0).symm.trans hf
    refine lv_tableIn (tgt := 32) (off := 31) hx hb dX3_secondsOf_1 (by rw [zI_toInt k1]; omega) (by rw [zI_toInt k1]; omega) (by rw [zI_toInt k1, c2_0]; rfl) (by decide) ?_
    refine lv_iload_n hx hb dX3_secondsOf_32 rfl (lv_at hl 1 rfl) ?_
    refine lv_iconst (v := zI 4) hx hb dX3_secondsOf_33 (by decide +kernel) ?_
    obtain ⟨k3, hf⟩ := zck_some hf
    refine lz_icmp_gt (tgt := 42) hx hb ⟨k3, by decide⟩ dX3_secondsOf_34 (by decide) (fun c4 => ?_) (fun c4 => ?_)
    · replace hf := (if_pos c4).symm.trans hf
      refine lv_ldcf (v := 1036831949) hx hb hown (hts _ zk_t2_69) dX3_secondsOf_42 ?_
      cases hf
      exact zretf hx hb hr hlocks hQ hH ⟨rfl, hbg⟩ dX3_secondsOf_44
    · replace hf := (if_neg c4).symm.trans hf
      refine lv_ldcf (v := 1033476506) hx hb hown (hts _ zk_t2_68) dX3_secondsOf_37 ?_
      refine lv_goto (tgt := 44) hx hb dX3_secondsOf_39 (by decide) ?_
      cases hf
      exact zretf hx hb hr hlocks hQ hH ⟨rfl, hbg⟩ dX3_secondsOf_44
  replace hf := (if_neg c2_0).symm.trans hf
  by_cases c2_1 : p0 = 1
  · replace hf := (if_pos c2_1).symm.trans hf
    refine lv_tableIn (tgt := 45) (off := 44) hx hb dX3_secondsOf_1 (by rw [zI_toInt k1]; omega) (by rw [zI_toInt k1]; omega) (by rw [zI_toInt k1, c2_1]; rfl) (by decide) ?_
    refine lv_ldcf (v := 1045220557) hx hb hown (hts _ zk_t2_70) dX3_secondsOf_45 ?_
    cases hf
    exact zretf hx hb hr hlocks hQ hH ⟨rfl, hbg⟩ dX3_secondsOf_47
  replace hf := (if_neg c2_1).symm.trans hf
  by_cases c2_2 : p0 = 2
  · replace hf := (if_pos c2_2).symm.trans hf
    refine lv_tableIn (tgt := 48) (off := 47) hx hb dX3_secondsOf_1 (by rw [zI_toInt k1]; omega) (by rw [zI_toInt k1]; omega) (by rw [zI_toInt k1, c2_2]; rfl) (by decide) ?_
    refine lv_ldcf (v := 1086324736) hx hb hown (hts _ zk_t2_71) dX3_secondsOf_48 ?_
    cases hf
    exact zretf hx hb hr hlocks hQ hH ⟨rfl, hbg⟩ dX3_secondsOf_50
  replace hf := (if_neg c2_2).symm.trans hf
  by_cases c2_3 : p0 = 3
  · replace hf := (if_pos c2_3).symm.trans hf
    refine lv_tableIn (tgt := 51) (off := 50) hx hb dX3_secondsOf_1 (by rw [zI_toInt k1]; omega) (by rw [zI_toInt k1]; omega) (by rw [zI_toInt k1, c2_3]; rfl) (by decide) ?_
    refine lv_ldcf (v := 1090519040) hx hb hown (hts _ zk_t2_72) dX3_secondsOf_51 ?_
    cases hf
    exact zretf hx hb hr hlocks hQ hH ⟨rfl, hbg⟩ dX3_secondsOf_53
  replace hf := (if_neg c2_3).symm.trans hf
  refine lv_tableOut (tgt := 54) hx hb dX3_secondsOf_1 (by rw [zI_toInt k1]; omega) (by decide) ?_
  refine lv_fconst0 hx hb dX3_secondsOf_54 ?_
  cases hf
  exact zretf hx hb hr hlocks hQ hH ⟨rfl, hbg⟩ dX3_secondsOf_55
abbrev rmX3_put : Room := { frames := 2, cells := 0, slots := 0, locals := 42 }
theorem hd_X3_put : yX3_put.cls = RX3 ∧ yX3_put.cls ≠ "java/lang/invoke/MethodHandle" ∧ yX3_put.cls ≠ "java/lang/invoke/VarHandle" ∧ (parseMethodDescriptor yX3_put.desc).map (fun d => d.parameters.length) = some 4 := by decide +kernel
set_option maxHeartbeats 4000000 in
set_option maxRecDepth 100000 in
theorem c_X3_put {l : Launch} {D : va_G} {cI cZ cF cL cD : ClassId} {ad : Nat → Nat} {N : Nat} (hI : ∀ i j, i < N → j < N → ad i = ad j → i = j) (hN : 19 ≤ N) {σ0 : Nat → va_E} {sz : Nat} {pl_kinds : Int → Int} {pl_differencesX : Int → Int} {pl_differencesY : Int → Int} {pl_owners : Int → Int} {pl_kindCounts : Int → Int} {pl_threads : Int → Int} {pl_size : Int} {pl_seconds : UInt32} {pl_needleX : Int} {pl_needleY : Int} {pl_colour : Int} {p1 : Int} {p2 : Int} {p3 : Int} {p4 : Int} {R_pl_kinds : Int → Int} {R_pl_differencesX : Int → Int} {R_pl_differencesY : Int → Int} {R_pl_owners : Int → Int} {R_pl_kindCounts : Int → Int} {R_pl_threads : Int → Int} {R_pl_size : Int} {R_pl_seconds : UInt32} (h_pl : σ0 3 = oC_pl ad pl_size pl_seconds pl_needleX pl_needleY pl_colour) (h_pl_kinds : σ0 4 = .inl (cI, 16641, .inl (zA pl_kinds))) (h_pl_differencesX : σ0 5 = .inl (cI, 16641, .inl (zA pl_differencesX))) (h_pl_differencesY : σ0 6 = .inl (cI, 16641, .inl (zA pl_differencesY))) (h_pl_owners : σ0 7 = .inl (cI, 16641, .inl (zA pl_owners))) (h_pl_kindCounts : σ0 8 = .inl (cI, 5, .inl (zA pl_kindCounts))) (h_pl_threads : σ0 9 = .inl (cI, 6, .inl (zA pl_threads))) (hf : f_X3_put pl_kinds pl_differencesX pl_differencesY pl_owners pl_kindCounts pl_threads pl_size pl_seconds pl_colour p1 p2 p3 p4 = some (R_pl_kinds, R_pl_differencesX, R_pl_differencesY, R_pl_owners, R_pl_kindCounts, R_pl_threads, R_pl_size, R_pl_seconds)) :
    Met l yX3_put (Cond.code yX3_put cX3_put 7 none :: wsL_law) rmX3_put (zPre D ad N (zT cI cZ cF cL cD) σ0 sz [.ref (ad 3), .int (zI p1), .int (zI p2), .int (zI p3), .int (zI p4)]) (zQv D ad N sz (fun σ' => σ' 3 = oC_pl ad R_pl_size R_pl_seconds pl_needleX pl_needleY pl_colour ∧ σ' 4 = .inl (cI, 16641, .inl (zA R_pl_kinds)) ∧ σ' 5 = .inl (cI, 16641, .inl (zA R_pl_differencesX)) ∧ σ' 6 = .inl (cI, 16641, .inl (zA R_pl_differencesY)) ∧ σ' 7 = .inl (cI, 16641, .inl (zA R_pl_owners)) ∧ σ' 8 = .inl (cI, 5, .inl (zA R_pl_kindCounts)) ∧ σ' 9 = .inl (cI, 6, .inl (zA R_pl_threads)) ∧ ∀ i : Nat, i ≠ 3 → i ≠ 4 → i ≠ 5 → i ≠ 6 → i ≠ 7 → i ≠ 8 → i ≠ 9 → σ' i = σ0 i)) 0 0 (zFr ad N sz) := by
  refine zMet hI (plainFor_of_name (by decide)) (Nat.le_of_ble_eq_true rfl) ⟨rfl, rfl⟩ ?_
  intro p e s m args below meth c Q hx hb hr hlocks hml hown hts hK hsz hQ hH hA ls hl
  subst hsz
  have hk_pl : 3 < N := by omega
  have hk_pl_kinds : 4 < N := by omega
  have hk_pl_differencesX : 5 < N := by omega
  have hk_pl_differencesY : 6 < N := by omega
  have hk_pl_owners : 7 < N := by omega
  have hk_pl_kindCounts : 8 < N := by omega
  have hk_pl_threads : 9 < N := by omega
  have hl : lv_has ls 7 [(0, .ref (ad 3)), (1, .int (zI p1)), (2, .int (zI p2)), (3, .int (zI p3)), (4, .int (zI p4))] := hl
  have hbg : ∀ i : Nat, i ≠ 3 → i ≠ 4 → i ≠ 5 → i ≠ 6 → i ≠ 7 → i ≠ 8 → i ≠ 9 → σ0 i = σ0 i := fun _ _ _ _ _ _ _ _ => rfl
  unfold f_X3_put at hf
  refine lv_aload_n hx hb dX3_put_0 rfl (lv_at hl 0 rfl) ?_
  refine zget hx hb inlX3 rfl 6 rfl zk_t1_39 hts hown hK hH hk_pl h_pl rfl dX3_put_1 ?_
  refine lv_istore (lv' := [(5, .int (zI pl_size)), (0, .ref (ad 3)), (1, .int (zI p1)), (2, .int (zI p2)), (3, .int (zI p3)), (4, .int (zI p4))]) hx hb dX3_put_4 hl (by decide) rfl (fun ls hl => ?_)
  refine lv_iload hx hb dX3_put_6 (lv_at hl 0 rfl) ?_
  refine lv_aload_n hx hb dX3_put_8 rfl (lv_at hl 1 rfl) ?_
  refine zget hx hb inlX3 rfl 0 rfl zk_t1_31 hts hown hK hH hk_pl h_pl rfl dX3_put_9 ?_
  refine zalen (z := 16641) hx hb hK hH hk_pl_kinds 0 h_pl_kinds rfl (show Int32.ofNat 16641 = zI 16641 by decide +kernel) dX3_put_12 ?_
  obtain ⟨k1, hf⟩ := zck_some hf
  refine lz_icmp_ge (tgt := 59) hx hb ⟨k1, by decide⟩ dX3_put_13 (by decide) (fun c2 => ?_) (fun c2 => ?_)
  · replace hf := (if_pos c2).symm.trans hf
    cases hf
    exact zretv hx hb hr hlocks hQ hH ⟨h_pl, h_pl_kinds, h_pl_differencesX, h_pl_differencesY, h_pl_owners, h_pl_kindCounts, h_pl_threads, hbg⟩ dX3_put_59
  · replace hf := (if_neg c2).symm.trans hf
    refine lv_iload hx hb dX3_put_16 (lv_at hl 0 rfl) ?_
    refine lv_aload_n hx hb dX3_put_18 rfl (lv_at hl 1 rfl) ?_
    refine zget hx hb inlX3 rfl 1 rfl zk_t1_32 hts hown hK hH hk_pl h_pl rfl dX3_put_19 ?_
    refine zalen (z := 16641) hx hb hK hH hk_pl_differencesX 0 h_pl_differencesX rfl (show Int32.ofNat 16641 = zI 16641 by decide +kernel) dX3_put_22 ?_
    obtain ⟨k3, hf⟩ := zck_some hf
    refine lz_icmp_ge (tgt := 59) hx hb ⟨k3, by decide⟩ dX3_put_23 (by decide) (fun c4 => ?_) (fun c4 => ?_)
    · replace hf := (if_pos c4).symm.trans hf
      cases hf
      exact zretv hx hb hr hlocks hQ hH ⟨h_pl, h_pl_kinds, h_pl_differencesX, h_pl_differencesY, h_pl_owners, h_pl_kindCounts, h_pl_threads, hbg⟩ dX3_put_59
    · replace hf := (if_neg c4).symm.trans hf
      refine lv_iload hx hb dX3_put_26 (lv_at hl 0 rfl) ?_
      refine lv_aload_n hx hb dX3_put_28 rfl (lv_at hl 1 rfl) ?_
      refine zget hx hb inlX3 rfl 2 rfl zk_t1_33 hts hown hK hH hk_pl h_pl rfl dX3_put_29 ?_
      refine zalen (z := 16641) hx hb hK hH hk_pl_differencesY 0 h_pl_differencesY rfl (show Int32.ofNat 16641 = zI 16641 by decide +kernel) dX3_put_32 ?_
      obtain ⟨k5, hf⟩ := zck_some hf
      refine lz_icmp_ge (tgt := 59) hx hb ⟨k5, by decide⟩ dX3_put_33 (by decide) (fun c6 => ?_) (fun c6 => ?_)
      · replace hf := (if_pos c6).symm.trans hf
        cases hf
        exact zretv hx hb hr hlocks hQ hH ⟨h_pl, h_pl_kinds, h_pl_differencesX, h_pl_differencesY, h_pl_owners, h_pl_kindCounts, h_pl_threads, hbg⟩ dX3_put_59
      · replace hf := (if_neg c6).symm.trans hf
        refine lv_iload hx hb dX3_put_36 (lv_at hl 0 rfl) ?_
        refine lv_aload_n hx hb dX3_put_38 rfl (lv_at hl 1 rfl) ?_
        refine zget hx hb inlX3 rfl 3 rfl zk_t1_34 hts hown hK hH hk_pl h_pl rfl dX3_put_39 ?_
        refine zalen (z := 16641) hx hb hK hH hk_pl_owners 0 h_pl_owners rfl (show Int32.ofNat 16641 = zI 16641 by decide +kernel) dX3_put_42 ?_
        obtain ⟨k7, hf⟩ := zck_some hf
        refine lz_icmp_ge (tgt := 59) hx hb ⟨k7, by decide⟩ dX3_put_43 (by decide) (fun c8 => ?_) (fun c8 => ?_)
        · replace hf := (if_pos c8).symm.trans hf
          cases hf
          exact zretv hx hb hr hlocks hQ hH ⟨h_pl, h_pl_kinds, h_pl_differencesX, h_pl_differencesY, h_pl_owners, h_pl_kindCounts, h_pl_threads, hbg⟩ dX3_put_59
        · replace hf := (if_neg c8).symm.trans hf
          refine lv_iload_n hx hb dX3_put_46 rfl (lv_at hl 2 rfl) ?_
          obtain ⟨k9, hf⟩ := zck_some hf
          refine lz_if_lt (tgt := 59) hx hb k9 dX3_put_47 (by decide) (fun c10 => ?_) (fun c10 => ?_)
          · replace hf := (if_pos c10).symm.trans hf
            cases hf
            exact zretv hx hb hr hlocks hQ hH ⟨h_pl, h_pl_kinds, h_pl_differencesX, h_pl_differencesY, h_pl_owners, h_pl_kindCounts, h_pl_threads, hbg⟩ dX3_put_59
          · replace hf := (if_neg c10).symm.trans hf
            refine lv_iload_n hx hb dX3_put_50 rfl (lv_at hl 2 rfl) ?_
            refine lv_aload_n hx hb dX3_put_51 rfl (lv_at hl 1 rfl) ?_
            refine zget hx hb inlX3 rfl 4 rfl zk_t1_35 hts hown hK hH hk_pl h_pl rfl dX3_put_52 ?_
            refine zalen (z := 5) hx hb hK hH hk_pl_kindCounts 0 h_pl_kindCounts rfl (show Int32.ofNat 5 = zI 5 by decide +kernel) dX3_put_55 ?_
            obtain ⟨k11, hf⟩ := zck_some hf
            refine lz_icmp_lt (tgt := 60) hx hb ⟨k11, by decide⟩ dX3_put_56 (by decide) (fun c12 => ?_) (fun c12 => ?_)
            · replace hf := (if_pos c12).symm.trans hf
              refine lv_aload_n hx hb dX3_put_60 rfl (lv_at hl 1 rfl) ?_
              refine zget hx hb inlX3 rfl 0 rfl zk_t1_31 hts hown hK hH hk_pl h_pl rfl dX3_put_61 ?_
              refine lv_iload hx hb dX3_put_64 (lv_at hl 0 rfl) ?_
              refine lv_iload_n hx hb dX3_put_66 rfl (lv_at hl 2 rfl) ?_
              obtain ⟨k13, hf⟩ := zck_some hf
              obtain ⟨a15, ea15, hf⟩ := zlt_some hf
              refine ziast hx hb hK hH hk_pl_kinds 0 h_pl_kinds rfl k13 rfl dX3_put_67 (fun σ14 Hσ14 lσ14 h_pl_kinds hn hH => ?_)
              rw [← ea15] at h_pl_kinds
              have h_pl := (hn 3 (by decide)).trans h_pl
              have h_pl_differencesX := (hn 5 (by decide)).trans h_pl_differencesX
              have h_pl_differencesY := (hn 6 (by decide)).trans h_pl_differencesY
              have h_pl_owners := (hn 7 (by decide)).trans h_pl_owners
              have h_pl_kindCounts := (hn 8 (by decide)).trans h_pl_kindCounts
              have h_pl_threads := (hn 9 (by decide)).trans h_pl_threads
              have hbg : ∀ i : Nat, i ≠ 3 → i ≠ 4 → i ≠ 5 → i ≠ 6 → i ≠ 7 → i ≠ 8 → i ≠ 9 → σ14 i = σ0 i := fun i a0 a1 a2 a3 a4 a5 a6 => (hn i a1).trans (hbg i a0 a1 a2 a3 a4 a5 a6)
              refine lv_aload_n hx hb dX3_put_68 rfl (lv_at hl 1 rfl) ?_
              refine zget hx hb inlX3 rfl 1 rfl zk_t1_32 hts hown hK hH hk_pl h_pl rfl dX3_put_69 ?_
              refine lv_iload hx hb dX3_put_72 (lv_at hl 0 rfl) ?_
              refine lv_iload_n hx hb dX3_put_74 rfl (lv_at hl 3 rfl) ?_
              obtain ⟨k16, hf⟩ := zck_some hf
              obtain ⟨a18, ea18, hf⟩ := zlt_some hf
              refine ziast hx hb hK hH hk_pl_differencesX 0 h_pl_differencesX rfl k16 rfl dX3_put_75 (fun σ17 Hσ17 lσ17 h_pl_differencesX hn hH => ?_)
              rw [← ea18] at h_pl_differencesX
              have h_pl := (hn 3 (by decide)).trans h_pl
              have h_pl_kinds := (hn 4 (by decide)).trans h_pl_kinds
              have h_pl_differencesY := (hn 6 (by decide)).trans h_pl_differencesY
              have h_pl_owners := (hn 7 (by decide)).trans h_pl_owners
              have h_pl_kindCounts := (hn 8 (by decide)).trans h_pl_kindCounts
              have h_pl_threads := (hn 9 (by decide)).trans h_pl_threads
              have hbg : ∀ i : Nat, i ≠ 3 → i ≠ 4 → i ≠ 5 → i ≠ 6 → i ≠ 7 → i ≠ 8 → i ≠ 9 → σ17 i = σ0 i := fun i a0 a1 a2 a3 a4 a5 a6 => (hn i a2).trans (hbg i a0 a1 a2 a3 a4 a5 a6)
              refine lv_aload_n hx hb dX3_put_76 rfl (lv_at hl 1 rfl) ?_
              refine zget hx hb inlX3 rfl 2 rfl zk_t1_33 hts hown hK hH hk_pl h_pl rfl dX3_put_77 ?_
              refine lv_iload hx hb dX3_put_80 (lv_at hl 0 rfl) ?_
              refine lv_iload_n hx hb dX3_put_82 rfl (lv_at hl 4 rfl) ?_
              obtain ⟨k19, hf⟩ := zck_some hf
              obtain ⟨a21, ea21, hf⟩ := zlt_some hf
              refine ziast hx hb hK hH hk_pl_differencesY 0 h_pl_differencesY rfl k19 rfl dX3_put_83 (fun σ20 Hσ20 lσ20 h_pl_differencesY hn hH => ?_)
              rw [← ea21] at h_pl_differencesY
              have h_pl := (hn 3 (by decide)).trans h_pl
              have h_pl_kinds := (hn 4 (by decide)).trans h_pl_kinds
              have h_pl_differencesX := (hn 5 (by decide)).trans h_pl_differencesX
              have h_pl_owners := (hn 7 (by decide)).trans h_pl_owners
              have h_pl_kindCounts := (hn 8 (by decide)).trans h_pl_kindCounts
              have h_pl_threads := (hn 9 (by decide)).trans h_pl_threads
              have hbg : ∀ i : Nat, i ≠ 3 → i ≠ 4 → i ≠ 5 → i ≠ 6 → i ≠ 7 → i ≠ 8 → i ≠ 9 → σ20 i = σ0 i := fun i a0 a1 a2 a3 a4 a5 a6 => (hn i a3).trans (hbg i a0 a1 a2 a3 a4 a5 a6)
              refine lv_aload_n hx hb dX3_put_84 rfl (lv_at hl 1 rfl) ?_
              refine zget hx hb inlX3 rfl 3 rfl zk_t1_34 hts hown hK hH hk_pl h_pl rfl dX3_put_85 ?_
              refine lv_iload hx hb dX3_put_88 (lv_at hl 0 rfl) ?_
              refine lv_iload hx hb dX3_put_90 (lv_at hl 5 rfl) ?_
              obtain ⟨k22, hf⟩ := zck_some hf
              obtain ⟨a24, ea24, hf⟩ := zlt_some hf
              refine ziast hx hb hK hH hk_pl_owners 0 h_pl_owners rfl k22 rfl dX3_put_92 (fun σ23 Hσ23 lσ23 h_pl_owners hn hH => ?_)
              rw [← ea24] at h_pl_owners
              have h_pl := (hn 3 (by decide)).trans h_pl
              have h_pl_kinds := (hn 4 (by decide)).trans h_pl_kinds
              have h_pl_differencesX := (hn 5 (by decide)).trans h_pl_differencesX
              have h_pl_differencesY := (hn 6 (by decide)).trans h_pl_differencesY
              have h_pl_kindCounts := (hn 8 (by decide)).trans h_pl_kindCounts
              have h_pl_threads := (hn 9 (by decide)).trans h_pl_threads
              have hbg : ∀ i : Nat, i ≠ 3 → i ≠ 4 → i ≠ 5 → i ≠ 6 → i ≠ 7 → i ≠ 8 → i ≠ 9 → σ23 i = σ0 i := fun i a0 a1 a2 a3 a4 a5 a6 => (hn i a4).trans (hbg i a0 a1 a2 a3 a4 a5 a6)
              refine lv_aload_n hx hb dX3_put_93 rfl (lv_at hl 1 rfl) ?_
              refine lv_iload hx hb dX3_put_94 (lv_at hl 0 rfl) ?_
              refine lv_iconst (v := zI 1) hx hb dX3_put_96 (by decide +kernel) ?_
              refine lz_iadd hx hb dX3_put_97 ?_
              obtain ⟨v25, ev25, hf⟩ := zlt_some hf
              refine lz_nm ev25 ?_
              refine zput hx hb inlX3 tyX3 tyX3_ok nmX3 rfl 6 rfl zk_t1_39 rfl hts hown hK hH hk_pl h_pl rfl rfl rfl dX3_put_98 (fun σ26 Hσ26 lσ26 h_pl hn hH => ?_)
              have h_pl : σ26 3 = oC_pl ad v25 pl_seconds pl_needleX pl_needleY pl_colour := h_pl
              have h_pl_kinds := (hn 4 (by decide)).trans h_pl_kinds
              have h_pl_differencesX := (hn 5 (by decide)).trans h_pl_differencesX
              have h_pl_differencesY := (hn 6 (by decide)).trans h_pl_differencesY
              have h_pl_owners := (hn 7 (by decide)).trans h_pl_owners
              have h_pl_kindCounts := (hn 8 (by decide)).trans h_pl_kindCounts
              have h_pl_threads := (hn 9 (by decide)).trans h_pl_threads
              have hbg : ∀ i : Nat, i ≠ 3 → i ≠ 4 → i ≠ 5 → i ≠ 6 → i ≠ 7 → i ≠ 8 → i ≠ 9 → σ26 i = σ0 i := fun i a0 a1 a2 a3 a4 a5 a6 => (hn i a0).trans (hbg i a0 a1 a2 a3 a4 a5 a6)
              refine lv_aload_n hx hb dX3_put_101 rfl (lv_at hl 1 rfl) ?_
              refine zget hx hb inlX3 rfl 4 rfl zk_t1_35 hts hown hK hH hk_pl h_pl rfl dX3_put_102 ?_
              refine lv_iload_n hx hb dX3_put_105 rfl (lv_at hl 2 rfl) ?_
              refine lv_dup2_11 hx hb dX3_put_106 rfl rfl ?_
              obtain ⟨k27, hf⟩ := zck_some hf
              refine ziald hx hb hK hH hk_pl_kindCounts 0 h_pl_kindCounts rfl k27 rfl dX3_put_107 ?_
              refine lv_iconst (v := zI 1) hx hb dX3_put_108 (by decide +kernel) ?_
              refine lz_iadd hx hb dX3_put_109 ?_
              obtain ⟨k28, hf⟩ := zck_some hf
              obtain ⟨a30, ea30, hf⟩ := zlt_some hf
              refine ziast hx hb hK hH hk_pl_kindCounts 0 h_pl_kindCounts rfl k28 rfl dX3_put_110 (fun σ29 Hσ29 lσ29 h_pl_kindCounts hn hH => ?_)
              rw [← ea30] at h_pl_kindCounts
              have h_pl := (hn 3 (by decide)).trans h_pl
              have h_pl_kinds := (hn 4 (by decide)).trans h_pl_kinds
              have h_pl_differencesX := (hn 5 (by decide)).trans h_pl_differencesX
              have h_pl_differencesY := (hn 6 (by decide)).trans h_pl_differencesY
              have h_pl_owners := (hn 7 (by decide)).trans h_pl_owners
              have h_pl_threads := (hn 9 (by decide)).trans h_pl_threads
              have hbg : ∀ i : Nat, i ≠ 3 → i ≠ 4 → i ≠ 5 → i ≠ 6 → i ≠ 7 → i ≠ 8 → i ≠ 9 → σ29 i = σ0 i := fun i a0 a1 a2 a3 a4 a5 a6 => (hn i a5).trans (hbg i a0 a1 a2 a3 a4 a5 a6)
              refine lv_aload_n hx hb dX3_put_111 rfl (lv_at hl 1 rfl) ?_
              refine lv_dup hx hb dX3_put_112 rfl ?_
              refine zget hx hb inlX3 rfl 7 rfl zk_t1_43 hts hown hK hH hk_pl h_pl rfl dX3_put_113 ?_
              refine lv_iload_n hx hb dX3_put_116 rfl (lv_at hl 2 rfl) ?_
              refine lv_iload_n hx hb dX3_put_117 rfl (lv_at hl 3 rfl) ?_
              refine lv_iload_n hx hb dX3_put_118 rfl (lv_at hl 4 rfl) ?_
              obtain ⟨r31, k32, hf⟩ := zb1_some hf
              refine zcNi (As := [.int (zI p2), .int (zI p3)]) (rest := [.int (zI p1), .float pl_seconds, .ref (ad 3)]) hx hb hml hown hts hl.1 hK hH hA (c_X6_greaterDifference hI hN   k32) (host := RX6) (List.mem_of_getElem? (i := 7) rfl) zk_t1_207 zk_t1_1 zk_t1_208 hd_X6_greaterDifference rfl ⟨rfl, rfl, Nat.le_of_ble_eq_true rfl, Nat.le_of_ble_eq_true rfl⟩ ⟨Nat.zero_le _, Nat.zero_le _⟩ rfl (Nat.le_of_ble_eq_true rfl) dX3_put_119 (fun q34 σ33 Hσ33 lσ33 hp hH => ?_)
              obtain ⟨hr1, hs1⟩ := hp; subst hr1; rw [hs1] at hH
              obtain ⟨r35, k36, hf⟩ := zb1_some hf
              refine zcSf (As := [.int (zI p1), .int (zI r31)]) (rest := [.float pl_seconds, .ref (ad 3)]) hx hb hml hown hts hl.1 hK hH hA (c_X3_secondsOf hI hN   k36) zk_t2_65 zk_t2_66 zk_t1_2 zk_t2_67 hd_X3_secondsOf rfl ⟨rfl, rfl, Nat.le_of_ble_eq_true rfl, Nat.le_of_ble_eq_true rfl⟩ ⟨Nat.zero_le _, Nat.zero_le _⟩ rfl (Nat.le_of_ble_eq_true rfl) dX3_put_122 (fun q38 σ37 Hσ37 lσ37 hp hH => ?_)
              obtain ⟨hr1, hs1⟩ := hp; subst hr1; rw [hs1] at hH
              obtain ⟨k39, hf⟩ := zck_some hf
              refine lv_fadd hx hb dX3_put_125 k39 ?_
              obtain ⟨v40, ev40, hf⟩ := zlt_some hf
              refine lz_nmf ev40 ?_
              refine zput hx hb inlX3 tyX3 tyX3_ok nmX3 rfl 7 rfl zk_t1_43 rfl hts hown hK hH hk_pl h_pl rfl rfl rfl dX3_put_126 (fun σ41 Hσ41 lσ41 h_pl hn hH => ?_)
              have h_pl : σ41 3 = oC_pl ad v25 v40 pl_needleX pl_needleY pl_colour := h_pl
              have h_pl_kinds := (hn 4 (by decide)).trans h_pl_kinds
              have h_pl_differencesX := (hn 5 (by decide)).trans h_pl_differencesX
              have h_pl_differencesY := (hn 6 (by decide)).trans h_pl_differencesY
              have h_pl_owners := (hn 7 (by decide)).trans h_pl_owners
              have h_pl_kindCounts := (hn 8 (by decide)).trans h_pl_kindCounts
              have h_pl_threads := (hn 9 (by decide)).trans h_pl_threads
              have hbg : ∀ i : Nat, i ≠ 3 → i ≠ 4 → i ≠ 5 → i ≠ 6 → i ≠ 7 → i ≠ 8 → i ≠ 9 → σ41 i = σ0 i := fun i a0 a1 a2 a3 a4 a5 a6 => (hn i a0).trans (hbg i a0 a1 a2 a3 a4 a5 a6)
              refine lv_iload_n hx hb dX3_put_129 rfl (lv_at hl 2 rfl) ?_
              obtain ⟨k42, hf⟩ := zck_some hf
              refine lz_if_ne (tgt := 181) hx hb k42 dX3_put_130 (by decide) (fun c43 => ?_) (fun c43 => ?_)
              · replace hf := (if_neg c43).symm.trans hf
                cases hf
                exact zretv hx hb hr hlocks hQ hH ⟨h_pl, h_pl_kinds, h_pl_differencesX, h_pl_differencesY, h_pl_owners, h_pl_kindCounts, h_pl_threads, hbg⟩ dX3_put_181
              · replace hf := (if_pos c43).symm.trans hf
                refine lv_aload_n hx hb dX3_put_133 rfl (lv_at hl 1 rfl) ?_
                refine zget hx hb inlX3 rfl 10 rfl zk_t1_47 hts hown hK hH hk_pl h_pl rfl dX3_put_134 ?_
                obtain ⟨k44, hf⟩ := zck_some hf
                refine lz_if_lt (tgt := 181) hx hb k44 dX3_put_137 (by decide) (fun c45 => ?_) (fun c45 => ?_)
                · replace hf := (if_pos c45).symm.trans hf
                  cases hf
                  exact zretv hx hb hr hlocks hQ hH ⟨h_pl, h_pl_kinds, h_pl_differencesX, h_pl_differencesY, h_pl_owners, h_pl_kindCounts, h_pl_threads, hbg⟩ dX3_put_181
                · replace hf := (if_neg c45).symm.trans hf
                  refine lv_aload_n hx hb dX3_put_140 rfl (lv_at hl 1 rfl) ?_
                  refine zget hx hb inlX3 rfl 10 rfl zk_t1_47 hts hown hK hH hk_pl h_pl rfl dX3_put_141 ?_
                  refine lv_aload_n hx hb dX3_put_144 rfl (lv_at hl 1 rfl) ?_
                  refine zget hx hb inlX3 rfl 5 rfl zk_t1_37 hts hown hK hH hk_pl h_pl rfl dX3_put_145 ?_
                  refine zalen (z := 6) hx hb hK hH hk_pl_threads 0 h_pl_threads rfl (show Int32.ofNat 6 = zI 6 by decide +kernel) dX3_put_148 ?_
                  obtain ⟨k46, hf⟩ := zck_some hf
                  refine lz_icmp_ge (tgt := 181) hx hb ⟨k46, by decide⟩ dX3_put_149 (by decide) (fun c47 => ?_) (fun c47 => ?_)
                  · replace hf := (if_pos c47).symm.trans hf
                    cases hf
                    exact zretv hx hb hr hlocks hQ hH ⟨h_pl, h_pl_kinds, h_pl_differencesX, h_pl_differencesY, h_pl_owners, h_pl_kindCounts, h_pl_threads, hbg⟩ dX3_put_181
                  · replace hf := (if_neg c47).symm.trans hf
                    refine lv_iload_n hx hb dX3_put_152 rfl (lv_at hl 3 rfl) ?_
                    refine lv_iload_n hx hb dX3_put_153 rfl (lv_at hl 3 rfl) ?_
                    refine lz_imul hx hb dX3_put_154 ?_
                    refine lv_iload_n hx hb dX3_put_155 rfl (lv_at hl 4 rfl) ?_
                    refine lv_iload_n hx hb dX3_put_156 rfl (lv_at hl 4 rfl) ?_
                    refine lz_imul hx hb dX3_put_157 ?_
                    refine lz_iadd hx hb dX3_put_158 ?_
                    obtain ⟨v48, ev48, hf⟩ := zlt_some hf
                    refine lz_nm ev48 ?_
                    refine lv_istore (lv' := [(6, .int (zI v48)), (5, .int (zI pl_size)), (0, .ref (ad 3)), (1, .int (zI p1)), (2, .int (zI p2)), (3, .int (zI p3)), (4, .int (zI p4))]) hx hb dX3_put_159 hl (by decide) rfl (fun ls hl => ?_)
                    refine lv_aload_n hx hb dX3_put_161 rfl (lv_at hl 2 rfl) ?_
                    refine zget hx hb inlX3 rfl 5 rfl zk_t1_37 hts hown hK hH hk_pl h_pl rfl dX3_put_162 ?_
                    refine lv_aload_n hx hb dX3_put_165 rfl (lv_at hl 2 rfl) ?_
                    refine zget hx hb inlX3 rfl 10 rfl zk_t1_47 hts hown hK hH hk_pl h_pl rfl dX3_put_166 ?_
                    refine lv_dup2_11 hx hb dX3_put_169 rfl rfl ?_
                    obtain ⟨k49, hf⟩ := zck_some hf
                    refine ziald hx hb hK hH hk_pl_threads 0 h_pl_threads rfl k49 rfl dX3_put_170 ?_
                    refine lv_bipush (v := zI 100) hx hb dX3_put_171 (by decide +kernel) ?_
                    refine lv_iload hx hb dX3_put_173 (lv_at hl 0 rfl) ?_
                    refine lz_imul hx hb dX3_put_175 ?_
                    obtain ⟨r50, k51, hf⟩ := zb1_some hf
                    refine zcNi (As := [.int (zI (100 * v48))]) (rest := [.int (zI (pl_threads pl_colour)), .int (zI pl_colour), .ref (ad 9)]) hx hb hml hown hts hl.1 hK hH hA (c_X6_wholeRoot hI hN   k51) (host := RX6) (List.mem_of_getElem? (i := 8) rfl) zk_t2_74 zk_t1_1 zk_t2_75 hd_X6_wholeRoot rfl ⟨rfl, rfl, Nat.le_of_ble_eq_true rfl, Nat.le_of_ble_eq_true rfl⟩ ⟨Nat.zero_le _, Nat.zero_le _⟩ rfl (Nat.le_of_ble_eq_true rfl) dX3_put_176 (fun q53 σ52 Hσ52 lσ52 hp hH => ?_)
                    obtain ⟨hr1, hs1⟩ := hp; subst hr1; rw [hs1] at hH
                    refine lz_iadd hx hb dX3_put_179 ?_
                    obtain ⟨k54, hf⟩ := zck_some hf
                    obtain ⟨a56, ea56, hf⟩ := zlt_some hf
                    refine ziast hx hb hK hH hk_pl_threads 0 h_pl_threads rfl k54 rfl dX3_put_180 (fun σ55 Hσ55 lσ55 h_pl_threads hn hH => ?_)
                    rw [← ea56] at h_pl_threads
                    have h_pl := (hn 3 (by decide)).trans h_pl
                    have h_pl_kinds := (hn 4 (by decide)).trans h_pl_kinds
                    have h_pl_differencesX := (hn 5 (by decide)).trans h_pl_differencesX
                    have h_pl_differencesY := (hn 6 (by decide)).trans h_pl_differencesY
                    have h_pl_owners := (hn 7 (by decide)).trans h_pl_owners
                    have h_pl_kindCounts := (hn 8 (by decide)).trans h_pl_kindCounts
                    have hbg : ∀ i : Nat, i ≠ 3 → i ≠ 4 → i ≠ 5 → i ≠ 6 → i ≠ 7 → i ≠ 8 → i ≠ 9 → σ55 i = σ0 i := fun i a0 a1 a2 a3 a4 a5 a6 => (hn i a6).trans (hbg i a0 a1 a2 a3 a4 a5 a6)
                    cases hf
                    exact zretv hx hb hr hlocks hQ hH ⟨h_pl, h_pl_kinds, h_pl_differencesX, h_pl_differencesY, h_pl_owners, h_pl_kindCounts, h_pl_threads, hbg⟩ dX3_put_181
            · replace hf := (if_neg c12).symm.trans hf
              cases hf
              exact zretv hx hb hr hlocks hQ hH ⟨h_pl, h_pl_kinds, h_pl_differencesX, h_pl_differencesY, h_pl_owners, h_pl_kindCounts, h_pl_threads, hbg⟩ dX3_put_59
abbrev rmX3_goTo : Room := { frames := 3, cells := 0, slots := 0, locals := 68 }
theorem hd_X3_goTo : yX3_goTo.cls = RX3 ∧ yX3_goTo.cls ≠ "java/lang/invoke/MethodHandle" ∧ yX3_goTo.cls ≠ "java/lang/invoke/VarHandle" ∧ (parseMethodDescriptor yX3_goTo.desc).map (fun d => d.parameters.length) = some 4 := by decide +kernel
set_option maxHeartbeats 4000000 in
set_option maxRecDepth 100000 in
theorem c_X3_goTo {l : Launch} {D : va_G} {cI cZ cF cL cD : ClassId} {ad : Nat → Nat} {N : Nat} (hI : ∀ i j, i < N → j < N → ad i = ad j → i = j) (hN : 19 ≤ N) {σ0 : Nat → va_E} {sz : Nat} {pl_kinds : Int → Int} {pl_differencesX : Int → Int} {pl_differencesY : Int → Int} {pl_owners : Int → Int} {pl_kindCounts : Int → Int} {pl_threads : Int → Int} {pl_size : Int} {pl_seconds : UInt32} {pl_needleX : Int} {pl_needleY : Int} {pl_colour : Int} {p1 : Int} {p2 : Int} {p3 : Int} {p4 : Int} {R_pl_kinds : Int → Int} {R_pl_differencesX : Int → Int} {R_pl_differencesY : Int → Int} {R_pl_owners : Int → Int} {R_pl_kindCounts : Int → Int} {R_pl_threads : Int → Int} {R_pl_size : Int} {R_pl_seconds : UInt32} {R_pl_needleX : Int} {R_pl_needleY : Int} (h_pl : σ0 3 = oC_pl ad pl_size pl_seconds pl_needleX pl_needleY pl_colour) (h_pl_kinds : σ0 4 = .inl (cI, 16641, .inl (zA pl_kinds))) (h_pl_differencesX : σ0 5 = .inl (cI, 16641, .inl (zA pl_differencesX))) (h_pl_differencesY : σ0 6 = .inl (cI, 16641, .inl (zA pl_differencesY))) (h_pl_owners : σ0 7 = .inl (cI, 16641, .inl (zA pl_owners))) (h_pl_kindCounts : σ0 8 = .inl (cI, 5, .inl (zA pl_kindCounts))) (h_pl_threads : σ0 9 = .inl (cI, 6, .inl (zA pl_threads))) (hf : f_X3_goTo pl_kinds pl_differencesX pl_differencesY pl_owners pl_kindCounts pl_threads pl_size pl_seconds pl_needleX pl_needleY pl_colour p1 p2 p3 p4 = some (R_pl_kinds, R_pl_differencesX, R_pl_differencesY, R_pl_owners, R_pl_kindCounts, R_pl_threads, R_pl_size, R_pl_seconds, R_pl_needleX, R_pl_needleY)) :
    Met l yX3_goTo (Cond.code yX3_goTo cX3_goTo 9 none :: wsL_law) rmX3_goTo (zPre D ad N (zT cI cZ cF cL cD) σ0 sz [.ref (ad 3), .int (zI p1), .int (zI p2), .int (zI p3), .int (zI p4)]) (zQv D ad N sz (fun σ' => σ' 3 = oC_pl ad R_pl_size R_pl_seconds R_pl_needleX R_pl_needleY pl_colour ∧ σ' 4 = .inl (cI, 16641, .inl (zA R_pl_kinds)) ∧ σ' 5 = .inl (cI, 16641, .inl (zA R_pl_differencesX)) ∧ σ' 6 = .inl (cI, 16641, .inl (zA R_pl_differencesY)) ∧ σ' 7 = .inl (cI, 16641, .inl (zA R_pl_owners)) ∧ σ' 8 = .inl (cI, 5, .inl (zA R_pl_kindCounts)) ∧ σ' 9 = .inl (cI, 6, .inl (zA R_pl_threads)) ∧ ∀ i : Nat, i ≠ 3 → i ≠ 4 → i ≠ 5 → i ≠ 6 → i ≠ 7 → i ≠ 8 → i ≠ 9 → σ' i = σ0 i)) 0 0 (zFr ad N sz) := by
  refine zMet hI (plainFor_of_name (by decide)) (Nat.le_of_ble_eq_true rfl) ⟨rfl, rfl⟩ ?_
  intro p e s m args below meth c Q hx hb hr hlocks hml hown hts hK hsz hQ hH hA ls hl
  subst hsz
  have hk_pl : 3 < N := by omega
  have hk_pl_kinds : 4 < N := by omega
  have hk_pl_differencesX : 5 < N := by omega
  have hk_pl_differencesY : 6 < N := by omega
  have hk_pl_owners : 7 < N := by omega
  have hk_pl_kindCounts : 8 < N := by omega
  have hk_pl_threads : 9 < N := by omega
  have hl : lv_has ls 9 [(0, .ref (ad 3)), (1, .int (zI p1)), (2, .int (zI p2)), (3, .int (zI p3)), (4, .int (zI p4))] := hl
  have hbg : ∀ i : Nat, i ≠ 3 → i ≠ 4 → i ≠ 5 → i ≠ 6 → i ≠ 7 → i ≠ 8 → i ≠ 9 → σ0 i = σ0 i := fun _ _ _ _ _ _ _ _ => rfl
  have J60 : ∀ (pl_kinds : Int → Int) (pl_differencesX : Int → Int) (pl_differencesY : Int → Int) (pl_owners : Int → Int) (pl_kindCounts : Int → Int) (pl_threads : Int → Int) (pl_size : Int) (pl_seconds : UInt32) (pl_needleX : Int) (pl_needleY : Int) (x1 : Int) (x2 : Int) (σ : Nat → va_E) (H : Heap) (locs : List Loc) (hH : zH D ad N (zFr ad N s.heap.size) s.heap σ H locs) (h_pl : σ 3 = oC_pl ad pl_size pl_seconds pl_needleX pl_needleY pl_colour) (h_pl_kinds : σ 4 = .inl (cI, 16641, .inl (zA pl_kinds))) (h_pl_differencesX : σ 5 = .inl (cI, 16641, .inl (zA pl_differencesX))) (h_pl_differencesY : σ 6 = .inl (cI, 16641, .inl (zA pl_differencesY))) (h_pl_owners : σ 7 = .inl (cI, 16641, .inl (zA pl_owners))) (h_pl_kindCounts : σ 8 = .inl (cI, 5, .inl (zA pl_kindCounts))) (h_pl_threads : σ 9 = .inl (cI, 6, .inl (zA pl_threads))) (hbg : ∀ i : Nat, i ≠ 3 → i ≠ 4 → i ≠ 5 → i ≠ 6 → i ≠ 7 → i ≠ 8 → i ≠ 9 → σ i = σ0 i) (ls : Array Slot) (hl : lv_has ls 9 [(0, .ref (ad 3)), (1, .int (zI x1)), (2, .int (zI x2))]), f_X3_goTo_60 pl_kinds pl_differencesX pl_differencesY pl_owners pl_kindCounts pl_threads pl_size pl_seconds pl_needleX pl_needleY pl_colour x1 x2 = some (R_pl_kinds, R_pl_differencesX, R_pl_differencesY, R_pl_owners, R_pl_kindCounts, R_pl_threads, R_pl_size, R_pl_seconds, R_pl_needleX, R_pl_needleY) → W p l e rmX3_goTo s m args below meth c H locs 0 0 Q (F0 m 60 ls []) := by
    intro pl_kinds pl_differencesX pl_differencesY pl_owners pl_kindCounts pl_threads pl_size pl_seconds pl_needleX pl_needleY x1 x2 σ H locs hH h_pl h_pl_kinds h_pl_differencesX h_pl_differencesY h_pl_owners h_pl_kindCounts h_pl_threads hbg ls hl hf
    unfold f_X3_goTo_60 at hf
    refine lv_aload_n hx hb dX3_goTo_60 rfl (lv_at hl 0 rfl) ?_
    refine lv_iload_n hx hb dX3_goTo_61 rfl (lv_at hl 1 rfl) ?_
    refine zput hx hb inlX3 tyX3 tyX3_ok nmX3 rfl 8 rfl zk_t1_45 rfl hts hown hK hH hk_pl h_pl rfl rfl rfl dX3_goTo_62 (fun σ1 Hσ1 lσ1 h_pl hn hH => ?_)
    have h_pl : σ1 3 = oC_pl ad pl_size pl_seconds x1 pl_needleY pl_colour := h_pl
    have h_pl_kinds := (hn 4 (by decide)).trans h_pl_kinds
    have h_pl_differencesX := (hn 5 (by decide)).trans h_pl_differencesX
    have h_pl_differencesY := (hn 6 (by decide)).trans h_pl_differencesY
    have h_pl_owners := (hn 7 (by decide)).trans h_pl_owners
    have h_pl_kindCounts := (hn 8 (by decide)).trans h_pl_kindCounts
    have h_pl_threads := (hn 9 (by decide)).trans h_pl_threads
    have hbg : ∀ i : Nat, i ≠ 3 → i ≠ 4 → i ≠ 5 → i ≠ 6 → i ≠ 7 → i ≠ 8 → i ≠ 9 → σ1 i = σ0 i := fun i a0 a1 a2 a3 a4 a5 a6 => (hn i a0).trans (hbg i a0 a1 a2 a3 a4 a5 a6)
    refine lv_aload_n hx hb dX3_goTo_65 rfl (lv_at hl 0 rfl) ?_
    refine lv_iload_n hx hb dX3_goTo_66 rfl (lv_at hl 2 rfl) ?_
    refine zput hx hb inlX3 tyX3 tyX3_ok nmX3 rfl 9 rfl zk_t1_46 rfl hts hown hK hH hk_pl h_pl rfl rfl rfl dX3_goTo_67 (fun σ2 Hσ2 lσ2 h_pl hn hH => ?_)
    have h_pl : σ2 3 = oC_pl ad pl_size pl_seconds x1 x2 pl_colour := h_pl
    have h_pl_kinds := (hn 4 (by decide)).trans h_pl_kinds
    have h_pl_differencesX := (hn 5 (by decide)).trans h_pl_differencesX
    have h_pl_differencesY := (hn 6 (by decide)).trans h_pl_differencesY
    have h_pl_owners := (hn 7 (by decide)).trans h_pl_owners
    have h_pl_kindCounts := (hn 8 (by decide)).trans h_pl_kindCounts
    have h_pl_threads := (hn 9 (by decide)).trans h_pl_threads
    have hbg : ∀ i : Nat, i ≠ 3 → i ≠ 4 → i ≠ 5 → i ≠ 6 → i ≠ 7 → i ≠ 8 → i ≠ 9 → σ2 i = σ0 i := fun i a0 a1 a2 a3 a4 a5 a6 => (hn i a0).trans (hbg i a0 a1 a2 a3 a4 a5 a6)
    cases hf
    exact zretv hx hb hr hlocks hQ hH ⟨h_pl, h_pl_kinds, h_pl_differencesX, h_pl_differencesY, h_pl_owners, h_pl_kindCounts, h_pl_threads, hbg⟩ dX3_goTo_70
  have J47 : ∀ (pl_kinds : Int → Int) (pl_differencesX : Int → Int) (pl_differencesY : Int → Int) (pl_owners : Int → Int) (pl_kindCounts : Int → Int) (pl_threads : Int → Int) (pl_size : Int) (pl_seconds : UInt32) (pl_needleX : Int) (pl_needleY : Int) (x1 : Int) (x2 : Int) (x3 : Int) (x5 : Int) (x6 : Int) (s0 : Int) (σ : Nat → va_E) (H : Heap) (locs : List Loc) (hH : zH D ad N (zFr ad N s.heap.size) s.heap σ H locs) (h_pl : σ 3 = oC_pl ad pl_size pl_seconds pl_needleX pl_needleY pl_colour) (h_pl_kinds : σ 4 = .inl (cI, 16641, .inl (zA pl_kinds))) (h_pl_differencesX : σ 5 = .inl (cI, 16641, .inl (zA pl_differencesX))) (h_pl_differencesY : σ 6 = .inl (cI, 16641, .inl (zA pl_differencesY))) (h_pl_owners : σ 7 = .inl (cI, 16641, .inl (zA pl_owners))) (h_pl_kindCounts : σ 8 = .inl (cI, 5, .inl (zA pl_kindCounts))) (h_pl_threads : σ 9 = .inl (cI, 6, .inl (zA pl_threads))) (hbg : ∀ i : Nat, i ≠ 3 → i ≠ 4 → i ≠ 5 → i ≠ 6 → i ≠ 7 → i ≠ 8 → i ≠ 9 → σ i = σ0 i) (ls : Array Slot) (hl : lv_has ls 9 [(0, .ref (ad 3)), (1, .int (zI x1)), (2, .int (zI x2)), (3, .int (zI x3)), (5, .int (zI x5)), (6, .int (zI x6))]), f_X3_goTo_47 pl_kinds pl_differencesX pl_differencesY pl_owners pl_kindCounts pl_threads pl_size pl_seconds pl_needleX pl_needleY pl_colour x1 x2 x3 x5 x6 s0 = some (R_pl_kinds, R_pl_differencesX, R_pl_differencesY, R_pl_owners, R_pl_kindCounts, R_pl_threads, R_pl_size, R_pl_seconds, R_pl_needleX, R_pl_needleY) → W p l e rmX3_goTo s m args below meth c H locs 0 0 Q (F0 m 47 ls [.int (zI s0)]) := by
    intro pl_kinds pl_differencesX pl_differencesY pl_owners pl_kindCounts pl_threads pl_size pl_seconds pl_needleX pl_needleY x1 x2 x3 x5 x6 s0 σ H locs hH h_pl h_pl_kinds h_pl_differencesX h_pl_differencesY h_pl_owners h_pl_kindCounts h_pl_threads hbg ls hl hf
    unfold f_X3_goTo_47 at hf
    refine lv_istore (lv' := [(8, .int (zI s0)), (0, .ref (ad 3)), (1, .int (zI x1)), (2, .int (zI x2)), (3, .int (zI x3)), (5, .int (zI x5)), (6, .int (zI x6))]) hx hb dX3_goTo_47 hl (by decide) rfl (fun ls hl => ?_)
    refine lv_aload_n hx hb dX3_goTo_49 rfl (lv_at hl 1 rfl) ?_
    refine lv_iload hx hb dX3_goTo_50 (lv_at hl 0 rfl) ?_
    refine lv_iload hx hb dX3_goTo_52 (lv_at hl 5 rfl) ?_
    refine lv_iload hx hb dX3_goTo_54 (lv_at hl 6 rfl) ?_
    refine lv_iload_n hx hb dX3_goTo_56 rfl (lv_at hl 4 rfl) ?_
    obtain ⟨a3, a4, a5, a6, a7, a8, u9, u10, k11, hf⟩ := zb8_some hf
    refine zcVv (C := RX3) (As := [.int (zI s0), .int (zI x5), .int (zI x6), .int (zI x3)]) (rest := []) hx hb hml hown hts hl.1 hK hH hA (c_X3_put hI hN  h_pl h_pl_kinds h_pl_differencesX h_pl_differencesY h_pl_owners h_pl_kindCounts h_pl_threads k11) zk_t2_60 zk_t2_61 zk_t2_62 zk_t1_2 zk_t2_63 hd_X3_put rfl ⟨rfl, rfl, Nat.le_of_ble_eq_true rfl, Nat.le_of_ble_eq_true rfl⟩ ⟨Nat.zero_le _, Nat.zero_le _⟩ hk_pl h_pl rfl rfl rfl (Nat.le_of_ble_eq_true rfl) dX3_goTo_57 (fun σ12 Hσ12 lσ12 hp hH => ?_)
    obtain ⟨h_pl, h_pl_kinds, h_pl_differencesX, h_pl_differencesY, h_pl_owners, h_pl_kindCounts, h_pl_threads, hn⟩ := hp
    have hbg : ∀ i : Nat, i ≠ 3 → i ≠ 4 → i ≠ 5 → i ≠ 6 → i ≠ 7 → i ≠ 8 → i ≠ 9 → σ12 i = σ0 i := fun i a0 a1 a2 a3 a4 a5 a6 => (hn i a0 a1 a2 a3 a4 a5 a6).trans (hbg i a0 a1 a2 a3 a4 a5 a6)
    exact J60 a3 a4 a5 a6 a7 a8 u9 u10 pl_needleX pl_needleY x1 x2 _ _ _ hH h_pl h_pl_kinds h_pl_differencesX h_pl_differencesY h_pl_owners h_pl_kindCounts h_pl_threads hbg _ (lv_sub hl [1, 2, 3] rfl) hf
  have J46 : ∀ (pl_kinds : Int → Int) (pl_differencesX : Int → Int) (pl_differencesY : Int → Int) (pl_owners : Int → Int) (pl_kindCounts : Int → Int) (pl_threads : Int → Int) (pl_size : Int) (pl_seconds : UInt32) (pl_needleX : Int) (pl_needleY : Int) (x1 : Int) (x2 : Int) (x3 : Int) (x5 : Int) (x6 : Int) (σ : Nat → va_E) (H : Heap) (locs : List Loc) (hH : zH D ad N (zFr ad N s.heap.size) s.heap σ H locs) (h_pl : σ 3 = oC_pl ad pl_size pl_seconds pl_needleX pl_needleY pl_colour) (h_pl_kinds : σ 4 = .inl (cI, 16641, .inl (zA pl_kinds))) (h_pl_differencesX : σ 5 = .inl (cI, 16641, .inl (zA pl_differencesX))) (h_pl_differencesY : σ 6 = .inl (cI, 16641, .inl (zA pl_differencesY))) (h_pl_owners : σ 7 = .inl (cI, 16641, .inl (zA pl_owners))) (h_pl_kindCounts : σ 8 = .inl (cI, 5, .inl (zA pl_kindCounts))) (h_pl_threads : σ 9 = .inl (cI, 6, .inl (zA pl_threads))) (hbg : ∀ i : Nat, i ≠ 3 → i ≠ 4 → i ≠ 5 → i ≠ 6 → i ≠ 7 → i ≠ 8 → i ≠ 9 → σ i = σ0 i) (ls : Array Slot) (hl : lv_has ls 9 [(0, .ref (ad 3)), (1, .int (zI x1)), (2, .int (zI x2)), (3, .int (zI x3)), (5, .int (zI x5)), (6, .int (zI x6))]), f_X3_goTo_46 pl_kinds pl_differencesX pl_differencesY pl_owners pl_kindCounts pl_threads pl_size pl_seconds pl_needleX pl_needleY pl_colour x1 x2 x3 x5 x6 = some (R_pl_kinds, R_pl_differencesX, R_pl_differencesY, R_pl_owners, R_pl_kindCounts, R_pl_threads, R_pl_size, R_pl_seconds, R_pl_needleX, R_pl_needleY) → W p l e rmX3_goTo s m args below meth c H locs 0 0 Q (F0 m 46 ls []) := by
    intro pl_kinds pl_differencesX pl_differencesY pl_owners pl_kindCounts pl_threads pl_size pl_seconds pl_needleX pl_needleY x1 x2 x3 x5 x6 σ H locs hH h_pl h_pl_kinds h_pl_differencesX h_pl_differencesY h_pl_owners h_pl_kindCounts h_pl_threads hbg ls hl hf
    unfold f_X3_goTo_46 at hf
    refine lv_iconst (v := zI 1) hx hb dX3_goTo_46 (by decide +kernel) ?_
    exact J47 pl_kinds pl_differencesX pl_differencesY pl_owners pl_kindCounts pl_threads pl_size pl_seconds pl_needleX pl_needleY x1 x2 x3 x5 x6 1 _ _ _ hH h_pl h_pl_kinds h_pl_differencesX h_pl_differencesY h_pl_owners h_pl_kindCounts h_pl_threads hbg _ (lv_sub hl [0, 1, 2, 3, 4, 5] rfl) hf
  unfold f_X3_goTo at hf
  refine lv_iload_n hx hb dX3_goTo_0 rfl (lv_at hl 1 rfl) ?_
  refine lv_aload_n hx hb dX3_goTo_1 rfl (lv_at hl 0 rfl) ?_
  refine zget hx hb inlX3 rfl 8 rfl zk_t1_45 hts hown hK hH hk_pl h_pl rfl dX3_goTo_2 ?_
  refine lz_isub hx hb dX3_goTo_5 ?_
  obtain ⟨v13, ev13, hf⟩ := zlt_some hf
  refine lz_nm ev13 ?_
  refine lv_istore (lv' := [(5, .int (zI v13)), (0, .ref (ad 3)), (1, .int (zI p1)), (2, .int (zI p2)), (3, .int (zI p3)), (4, .int (zI p4))]) hx hb dX3_goTo_6 hl (by decide) rfl (fun ls hl => ?_)
  refine lv_iload_n hx hb dX3_goTo_8 rfl (lv_at hl 3 rfl) ?_
  refine lv_aload_n hx hb dX3_goTo_9 rfl (lv_at hl 1 rfl) ?_
  refine zget hx hb inlX3 rfl 9 rfl zk_t1_46 hts hown hK hH hk_pl h_pl rfl dX3_goTo_10 ?_
  refine lz_isub hx hb dX3_goTo_13 ?_
  obtain ⟨v14, ev14, hf⟩ := zlt_some hf
  refine lz_nm ev14 ?_
  refine lv_istore (lv' := [(6, .int (zI v14)), (5, .int (zI v13)), (0, .ref (ad 3)), (1, .int (zI p1)), (2, .int (zI p2)), (3, .int (zI p3)), (4, .int (zI p4))]) hx hb dX3_goTo_14 hl (by decide) rfl (fun ls hl => ?_)
  refine lv_iload hx hb dX3_goTo_16 (lv_at hl 1 rfl) ?_
  refine lv_iload hx hb dX3_goTo_18 (lv_at hl 0 rfl) ?_
  obtain ⟨r15, k16, hf⟩ := zb1_some hf
  refine zcNi (As := [.int (zI v13), .int (zI v14)]) (rest := []) hx hb hml hown hts hl.1 hK hH hA (c_X6_greaterDifference hI hN   k16) (host := RX6) (List.mem_of_getElem? (i := 7) rfl) zk_t1_207 zk_t1_1 zk_t1_208 hd_X6_greaterDifference rfl ⟨rfl, rfl, Nat.le_of_ble_eq_true rfl, Nat.le_of_ble_eq_true rfl⟩ ⟨Nat.zero_le _, Nat.zero_le _⟩ rfl (Nat.le_of_ble_eq_true rfl) dX3_goTo_20 (fun q18 σ17 Hσ17 lσ17 hp hH => ?_)
  obtain ⟨hr1, hs1⟩ := hp; subst hr1; rw [hs1] at hH
  refine lv_istore (lv' := [(7, .int (zI r15)), (6, .int (zI v14)), (5, .int (zI v13)), (0, .ref (ad 3)), (1, .int (zI p1)), (2, .int (zI p2)), (3, .int (zI p3)), (4, .int (zI p4))]) hx hb dX3_goTo_23 hl (by decide) rfl (fun ls hl => ?_)
  refine lv_iload hx hb dX3_goTo_25 (lv_at hl 0 rfl) ?_
  obtain ⟨k19, hf⟩ := zck_some hf
  refine lz_if_eq (tgt := 60) hx hb k19 dX3_goTo_27 (by decide) (fun c20 => ?_) (fun c20 => ?_)
  · replace hf := (if_pos c20).symm.trans hf
    exact J60 pl_kinds pl_differencesX pl_differencesY pl_owners pl_kindCounts pl_threads pl_size pl_seconds pl_needleX pl_needleY p1 p2 _ _ _ hH h_pl h_pl_kinds h_pl_differencesX h_pl_differencesY h_pl_owners h_pl_kindCounts h_pl_threads hbg _ (lv_sub hl [3, 4, 5] rfl) hf
  · replace hf := (if_neg c20).symm.trans hf
    refine lv_iload hx hb dX3_goTo_30 (lv_at hl 7 rfl) ?_
    obtain ⟨k21, hf⟩ := zck_some hf
    refine lz_if_eq (tgt := 46) hx hb k21 dX3_goTo_32 (by decide) (fun c22 => ?_) (fun c22 => ?_)
    · replace hf := (if_pos c22).symm.trans hf
      exact J46 pl_kinds pl_differencesX pl_differencesY pl_owners pl_kindCounts pl_threads pl_size pl_seconds pl_needleX pl_needleY p1 p2 p3 v13 v14 _ _ _ hH h_pl h_pl_kinds h_pl_differencesX h_pl_differencesY h_pl_owners h_pl_kindCounts h_pl_threads hbg _ (lv_sub hl [3, 4, 5, 6, 2, 1] rfl) hf
    · replace hf := (if_neg c22).symm.trans hf
      refine lv_iload hx hb dX3_goTo_35 (lv_at hl 0 rfl) ?_
      refine lv_bipush (v := zI 12) hx hb dX3_goTo_37 (by decide +kernel) ?_
      obtain ⟨k23, hf⟩ := zck_some hf
      refine lz_icmp_gt (tgt := 46) hx hb ⟨k23, by decide⟩ dX3_goTo_39 (by decide) (fun c24 => ?_) (fun c24 => ?_)
      · replace hf := (if_pos c24).symm.trans hf
        exact J46 pl_kinds pl_differencesX pl_differencesY pl_owners pl_kindCounts pl_threads pl_size pl_seconds pl_needleX pl_needleY p1 p2 p3 v13 v14 _ _ _ hH h_pl h_pl_kinds h_pl_differencesX h_pl_differencesY h_pl_owners h_pl_kindCounts h_pl_threads hbg _ (lv_sub hl [3, 4, 5, 6, 2, 1] rfl) hf
      · replace hf := (if_neg c24).symm.trans hf
        refine lv_iconst (v := zI 0) hx hb dX3_goTo_42 (by decide +kernel) ?_
        refine lv_goto (tgt := 47) hx hb dX3_goTo_43 (by decide) ?_
        exact J47 pl_kinds pl_differencesX pl_differencesY pl_owners pl_kindCounts pl_threads pl_size pl_seconds pl_needleX pl_needleY p1 p2 p3 v13 v14 0 _ _ _ hH h_pl h_pl_kinds h_pl_differencesX h_pl_differencesY h_pl_owners h_pl_kindCounts h_pl_threads hbg _ (lv_sub hl [3, 4, 5, 6, 2, 1] rfl) hf
abbrev rmX3_sewField : Room := { frames := 4, cells := 0, slots := 0, locals := 96 }
theorem hd_X3_sewField : yX3_sewField.cls = RX3 ∧ yX3_sewField.cls ≠ "java/lang/invoke/MethodHandle" ∧ yX3_sewField.cls ≠ "java/lang/invoke/VarHandle" ∧ (parseMethodDescriptor yX3_sewField.desc).map (fun d => d.parameters.length) = some 3 := by decide +kernel
set_option maxHeartbeats 4000000 in
set_option maxRecDepth 100000 in
theorem c_X3_sewField {l : Launch} {D : va_G} {cI cZ cF cL cD : ClassId} {ad : Nat → Nat} {N : Nat} (hI : ∀ i j, i < N → j < N → ad i = ad j → i = j) (hN : 19 ≤ N) {o : Nat} (ho : 19 ≤ o ∧ o + 7 ≤ N) {σ0 : Nat → va_E} {sz : Nat} {fd_colour : Int} {fd_layer : Int} {fd_column : Int} {fd_cornerCount : Int} {fd_crossingCount : Int} {fd_density : Int} {fd_length : Int} {fd_shift : Int} {fd_pull : Int} {fd_underlay : Int} {fd_drawn : Int} {pt_xs : Int → Int} {pt_ys : Int → Int} {pt_size : Int} {pl_kinds : Int → Int} {pl_differencesX : Int → Int} {pl_differencesY : Int → Int} {pl_owners : Int → Int} {pl_kindCounts : Int → Int} {pl_threads : Int → Int} {pl_size : Int} {pl_seconds : UInt32} {pl_needleX : Int} {pl_needleY : Int} {pl_colour : Int} {p2 : Int} {p3 : Int} {R_pl_kinds : Int → Int} {R_pl_differencesX : Int → Int} {R_pl_differencesY : Int → Int} {R_pl_owners : Int → Int} {R_pl_kindCounts : Int → Int} {R_pl_threads : Int → Int} {R_pl_size : Int} {R_pl_seconds : UInt32} {R_pl_needleX : Int} {R_pl_needleY : Int} {R_pl_colour : Int} (h_fd : σ0 o = oC_fd ad o fd_colour fd_layer fd_column fd_cornerCount fd_crossingCount fd_density fd_length fd_shift fd_pull fd_underlay fd_drawn) (h_pt : σ0 (o + 4) = oC_pt ad o pt_size) (h_pt_xs : σ0 (o + 5) = .inl (cI, 2078, .inl (zA pt_xs))) (h_pt_ys : σ0 (o + 6) = .inl (cI, 2078, .inl (zA pt_ys))) (h_pl : σ0 3 = oC_pl ad pl_size pl_seconds pl_needleX pl_needleY pl_colour) (h_pl_kinds : σ0 4 = .inl (cI, 16641, .inl (zA pl_kinds))) (h_pl_differencesX : σ0 5 = .inl (cI, 16641, .inl (zA pl_differencesX))) (h_pl_differencesY : σ0 6 = .inl (cI, 16641, .inl (zA pl_differencesY))) (h_pl_owners : σ0 7 = .inl (cI, 16641, .inl (zA pl_owners))) (h_pl_kindCounts : σ0 8 = .inl (cI, 5, .inl (zA pl_kindCounts))) (h_pl_threads : σ0 9 = .inl (cI, 6, .inl (zA pl_threads))) (hf : f_X3_sewField fd_colour pt_xs pt_ys pt_size pl_kinds pl_differencesX pl_differencesY pl_owners pl_kindCounts pl_threads pl_size pl_seconds pl_needleX pl_needleY pl_colour p2 p3 = some (R_pl_kinds, R_pl_differencesX, R_pl_differencesY, R_pl_owners, R_pl_kindCounts, R_pl_threads, R_pl_size, R_pl_seconds, R_pl_needleX, R_pl_needleY, R_pl_colour)) :
    Met l yX3_sewField (Cond.code yX3_sewField cX3_sewField 6 none :: wsL_law) rmX3_sewField (zPre D ad N (zT cI cZ cF cL cD) σ0 sz [.ref (ad 3), .ref (ad o), .int (zI p2), .int (zI p3)]) (zQv D ad N sz (fun σ' => σ' 3 = oC_pl ad R_pl_size R_pl_seconds R_pl_needleX R_pl_needleY R_pl_colour ∧ σ' 4 = .inl (cI, 16641, .inl (zA R_pl_kinds)) ∧ σ' 5 = .inl (cI, 16641, .inl (zA R_pl_differencesX)) ∧ σ' 6 = .inl (cI, 16641, .inl (zA R_pl_differencesY)) ∧ σ' 7 = .inl (cI, 16641, .inl (zA R_pl_owners)) ∧ σ' 8 = .inl (cI, 5, .inl (zA R_pl_kindCounts)) ∧ σ' 9 = .inl (cI, 6, .inl (zA R_pl_threads)) ∧ ∀ i : Nat, i ≠ 3 → i ≠ 4 → i ≠ 5 → i ≠ 6 → i ≠ 7 → i ≠ 8 → i ≠ 9 → σ' i = σ0 i)) 0 0 (zFr ad N sz) := by
  refine zMet hI (plainFor_of_name (by decide)) (Nat.le_of_ble_eq_true rfl) ⟨rfl, rfl⟩ ?_
  intro p e s m args below meth c Q hx hb hr hlocks hml hown hts hK hsz hQ hH hA ls hl
  subst hsz
  have hk_fd : o < N := by omega
  have hk_pt : (o + 4) < N := by omega
  have hk_pt_xs : (o + 5) < N := by omega
  have hk_pt_ys : (o + 6) < N := by omega
  have hk_pl : 3 < N := by omega
  have hk_pl_kinds : 4 < N := by omega
  have hk_pl_differencesX : 5 < N := by omega
  have hk_pl_differencesY : 6 < N := by omega
  have hk_pl_owners : 7 < N := by omega
  have hk_pl_kindCounts : 8 < N := by omega
  have hk_pl_threads : 9 < N := by omega
  have hl : lv_has ls 6 [(0, .ref (ad 3)), (1, .ref (ad o)), (2, .int (zI p2)), (3, .int (zI p3))] := hl
  have hbg : ∀ i : Nat, i ≠ 3 → i ≠ 4 → i ≠ 5 → i ≠ 6 → i ≠ 7 → i ≠ 8 → i ≠ 9 → σ0 i = σ0 i := fun _ _ _ _ _ _ _ _ => rfl
  have L80 : ∀ (pl_colour : Int) (x2 : Int)  (n : Nat) (x5 : Int) (pl_kinds : Int → Int) (pl_differencesX : Int → Int) (pl_differencesY : Int → Int) (pl_owners : Int → Int) (pl_kindCounts : Int → Int) (pl_threads : Int → Int) (pl_size : Int) (pl_seconds : UInt32) (pl_needleX : Int) (pl_needleY : Int) (x5' : Int) (pl_kinds' : Int → Int) (pl_differencesX' : Int → Int) (pl_differencesY' : Int → Int) (pl_owners' : Int → Int) (pl_kindCounts' : Int → Int) (pl_threads' : Int → Int) (pl_size' : Int) (pl_seconds' : UInt32) (pl_needleX' : Int) (pl_needleY' : Int), zlp (fun z => f_X3_sewField_L80 fd_colour pt_xs pt_ys pt_size pl_colour x2 z.1 z.2.1 z.2.2.1 z.2.2.2.1 z.2.2.2.2.1 z.2.2.2.2.2.1 z.2.2.2.2.2.2.1 z.2.2.2.2.2.2.2.1 z.2.2.2.2.2.2.2.2.1 z.2.2.2.2.2.2.2.2.2.1 z.2.2.2.2.2.2.2.2.2.2) n (x5, pl_kinds, pl_differencesX, pl_differencesY, pl_owners, pl_kindCounts, pl_threads, pl_size, pl_seconds, pl_needleX, pl_needleY) = some (x5', pl_kinds', pl_differencesX', pl_differencesY', pl_owners', pl_kindCounts', pl_threads', pl_size', pl_seconds', pl_needleX', pl_needleY') → ∀ (σ : Nat → va_E) (H : Heap) (locs : List Loc) (hH : zH D ad N (zFr ad N s.heap.size) s.heap σ H locs) (h_fd : σ o = oC_fd ad o fd_colour fd_layer fd_column fd_cornerCount fd_crossingCount fd_density fd_length fd_shift fd_pull fd_underlay fd_drawn) (h_pt : σ (o + 4) = oC_pt ad o pt_size) (h_pt_xs : σ (o + 5) = .inl (cI, 2078, .inl (zA pt_xs))) (h_pt_ys : σ (o + 6) = .inl (cI, 2078, .inl (zA pt_ys))) (h_pl : σ 3 = oC_pl ad pl_size pl_seconds pl_needleX pl_needleY pl_colour) (h_pl_kinds : σ 4 = .inl (cI, 16641, .inl (zA pl_kinds))) (h_pl_differencesX : σ 5 = .inl (cI, 16641, .inl (zA pl_differencesX))) (h_pl_differencesY : σ 6 = .inl (cI, 16641, .inl (zA pl_differencesY))) (h_pl_owners : σ 7 = .inl (cI, 16641, .inl (zA pl_owners))) (h_pl_kindCounts : σ 8 = .inl (cI, 5, .inl (zA pl_kindCounts))) (h_pl_threads : σ 9 = .inl (cI, 6, .inl (zA pl_threads))) (hbg : ∀ i : Nat, i ≠ 3 → i ≠ 4 → i ≠ 5 → i ≠ 6 → i ≠ 7 → i ≠ 8 → i ≠ 9 → σ i = σ0 i) (ls : Array Slot) (hl : lv_has ls 6 [(0, .ref (ad 3)), (2, .int (zI x2)), (4, .ref (ad (o + 4))), (5, .int (zI x5))]), (∀ (σ : Nat → va_E) (H : Heap) (locs : List Loc) (hH : zH D ad N (zFr ad N s.heap.size) s.heap σ H locs) (h_fd : σ o = oC_fd ad o fd_colour fd_layer fd_column fd_cornerCount fd_crossingCount fd_density fd_length fd_shift fd_pull fd_underlay fd_drawn) (h_pt : σ (o + 4) = oC_pt ad o pt_size) (h_pt_xs : σ (o + 5) = .inl (cI, 2078, .inl (zA pt_xs))) (h_pt_ys : σ (o + 6) = .inl (cI, 2078, .inl (zA pt_ys))) (h_pl : σ 3 = oC_pl ad (pl_size') (pl_seconds') (pl_needleX') (pl_needleY') pl_colour) (h_pl_kinds : σ 4 = .inl (cI, 16641, .inl (zA (pl_kinds')))) (h_pl_differencesX : σ 5 = .inl (cI, 16641, .inl (zA (pl_differencesX')))) (h_pl_differencesY : σ 6 = .inl (cI, 16641, .inl (zA (pl_differencesY')))) (h_pl_owners : σ 7 = .inl (cI, 16641, .inl (zA (pl_owners')))) (h_pl_kindCounts : σ 8 = .inl (cI, 5, .inl (zA (pl_kindCounts')))) (h_pl_threads : σ 9 = .inl (cI, 6, .inl (zA (pl_threads')))) (hbg : ∀ i : Nat, i ≠ 3 → i ≠ 4 → i ≠ 5 → i ≠ 6 → i ≠ 7 → i ≠ 8 → i ≠ 9 → σ i = σ0 i) (ls : Array Slot) (hl : lv_has ls 6 []), W p l e rmX3_sewField s m args below meth c H locs 0 0 Q (F0 m 140 ls [])) → W p l e rmX3_sewField s m args below meth c H locs 0 0 Q (F0 m 80 ls []) := by
    intro pl_colour x2 n
    induction n with
    | zero => intro x5 pl_kinds pl_differencesX pl_differencesY pl_owners pl_kindCounts pl_threads pl_size pl_seconds pl_needleX pl_needleY x5' pl_kinds' pl_differencesX' pl_differencesY' pl_owners' pl_kindCounts' pl_threads' pl_size' pl_seconds' pl_needleX' pl_needleY' hz; exact (zlp_0 hz).elim
    | succ n ih =>
      intro x5 pl_kinds pl_differencesX pl_differencesY pl_owners pl_kindCounts pl_threads pl_size pl_seconds pl_needleX pl_needleY x5' pl_kinds' pl_differencesX' pl_differencesY' pl_owners' pl_kindCounts' pl_threads' pl_size' pl_seconds' pl_needleX' pl_needleY' hz σ H locs hH h_fd h_pt h_pt_xs h_pt_ys h_pl h_pl_kinds h_pl_differencesX h_pl_differencesY h_pl_owners h_pl_kindCounts h_pl_threads hbg ls hl kx
      obtain ⟨nx, hf, hnx⟩ := zlp_some hz
      have hf : f_X3_sewField_L80 fd_colour pt_xs pt_ys pt_size pl_colour x2 x5 pl_kinds pl_differencesX pl_differencesY pl_owners pl_kindCounts pl_threads pl_size pl_seconds pl_needleX pl_needleY = some nx := hf
      unfold f_X3_sewField_L80 at hf
      refine lv_iload hx hb dX3_sewField_80 (lv_at hl 3 rfl) ?_
      refine lv_aload hx hb dX3_sewField_82 (lv_at hl 2 rfl) ?_
      refine zget hx hb inlX4 rfl 2 rfl zk_t3_80 hts hown hK hH hk_pt h_pt rfl dX3_sewField_84 ?_
      obtain ⟨k1, hf⟩ := zck_some hf
      refine lz_icmp_ge (tgt := 140) hx hb k1 dX3_sewField_87 (by decide) (fun c2 => ?_) (fun c2 => ?_)
      · replace hf := (if_pos c2).symm.trans hf
        cases hf
        cases hnx
        exact kx _ _ _ hH h_fd h_pt h_pt_xs h_pt_ys h_pl h_pl_kinds h_pl_differencesX h_pl_differencesY h_pl_owners h_pl_kindCounts h_pl_threads hbg _ (lv_sub hl [] rfl)
      · replace hf := (if_neg c2).symm.trans hf
        refine lv_iload hx hb dX3_sewField_90 (lv_at hl 3 rfl) ?_
        refine lv_aload hx hb dX3_sewField_92 (lv_at hl 2 rfl) ?_
        refine zget hx hb inlX4 rfl 0 rfl zk_t3_74 hts hown hK hH hk_pt h_pt rfl dX3_sewField_94 ?_
        refine zalen (z := 2078) hx hb hK hH hk_pt_xs 0 h_pt_xs rfl (show Int32.ofNat 2078 = zI 2078 by decide +kernel) dX3_sewField_97 ?_
        obtain ⟨k3, hf⟩ := zck_some hf
        refine lz_icmp_ge (tgt := 140) hx hb ⟨k3, by decide⟩ dX3_sewField_98 (by decide) (fun c4 => ?_) (fun c4 => ?_)
        · replace hf := (if_pos c4).symm.trans hf
          cases hf
          cases hnx
          exact kx _ _ _ hH h_fd h_pt h_pt_xs h_pt_ys h_pl h_pl_kinds h_pl_differencesX h_pl_differencesY h_pl_owners h_pl_kindCounts h_pl_threads hbg _ (lv_sub hl [] rfl)
        · replace hf := (if_neg c4).symm.trans hf
          refine lv_iload hx hb dX3_sewField_101 (lv_at hl 3 rfl) ?_
          refine lv_aload hx hb dX3_sewField_103 (lv_at hl 2 rfl) ?_
          refine zget hx hb inlX4 rfl 1 rfl zk_t3_77 hts hown hK hH hk_pt h_pt rfl dX3_sewField_105 ?_
          refine zalen (z := 2078) hx hb hK hH hk_pt_ys 0 h_pt_ys rfl (show Int32.ofNat 2078 = zI 2078 by decide +kernel) dX3_sewField_108 ?_
          obtain ⟨k5, hf⟩ := zck_some hf
          refine lz_icmp_ge (tgt := 140) hx hb ⟨k5, by decide⟩ dX3_sewField_109 (by decide) (fun c6 => ?_) (fun c6 => ?_)
          · replace hf := (if_pos c6).symm.trans hf
            cases hf
            cases hnx
            exact kx _ _ _ hH h_fd h_pt h_pt_xs h_pt_ys h_pl h_pl_kinds h_pl_differencesX h_pl_differencesY h_pl_owners h_pl_kindCounts h_pl_threads hbg _ (lv_sub hl [] rfl)
          · replace hf := (if_neg c6).symm.trans hf
            refine lv_aload_n hx hb dX3_sewField_112 rfl (lv_at hl 0 rfl) ?_
            refine lv_aload hx hb dX3_sewField_113 (lv_at hl 2 rfl) ?_
            refine zget hx hb inlX4 rfl 0 rfl zk_t3_74 hts hown hK hH hk_pt h_pt rfl dX3_sewField_115 ?_
            refine lv_iload hx hb dX3_sewField_118 (lv_at hl 3 rfl) ?_
            obtain ⟨k7, hf⟩ := zck_some hf
            refine ziald hx hb hK hH hk_pt_xs 0 h_pt_xs rfl k7 rfl dX3_sewField_120 ?_
            refine lv_aload hx hb dX3_sewField_121 (lv_at hl 2 rfl) ?_
            refine zget hx hb inlX4 rfl 1 rfl zk_t3_77 hts hown hK hH hk_pt h_pt rfl dX3_sewField_123 ?_
            refine lv_iload hx hb dX3_sewField_126 (lv_at hl 3 rfl) ?_
            obtain ⟨k8, hf⟩ := zck_some hf
            refine ziald hx hb hK hH hk_pt_ys 0 h_pt_ys rfl k8 rfl dX3_sewField_128 ?_
            refine lv_iload_n hx hb dX3_sewField_129 rfl (lv_at hl 1 rfl) ?_
            refine lv_iconst (v := zI 1) hx hb dX3_sewField_130 (by decide +kernel) ?_
            obtain ⟨a9, a10, a11, a12, a13, a14, u15, u16, u17, u18, k19, hf⟩ := zb10_some hf
            refine zcVv (C := RX3) (As := [.int (zI (pt_xs x5)), .int (zI (pt_ys x5)), .int (zI x2), .int (zI 1)]) (rest := []) hx hb hml hown hts hl.1 hK hH hA (c_X3_goTo hI hN  h_pl h_pl_kinds h_pl_differencesX h_pl_differencesY h_pl_owners h_pl_kindCounts h_pl_threads k19) zk_t2_77 zk_t2_79 zk_s1_10 zk_t1_2 zk_t2_80 hd_X3_goTo rfl ⟨rfl, rfl, Nat.le_of_ble_eq_true rfl, Nat.le_of_ble_eq_true rfl⟩ ⟨Nat.zero_le _, Nat.zero_le _⟩ hk_pl h_pl rfl rfl rfl (Nat.le_of_ble_eq_true rfl) dX3_sewField_131 (fun σ20 Hσ20 lσ20 hp hH => ?_)
            obtain ⟨h_pl, h_pl_kinds, h_pl_differencesX, h_pl_differencesY, h_pl_owners, h_pl_kindCounts, h_pl_threads, hn⟩ := hp
            have h_fd := (hn o (by omega) (by omega) (by omega) (by omega) (by omega) (by omega) (by omega)).trans h_fd
            have h_pt := (hn (o + 4) (by omega) (by omega) (by omega) (by omega) (by omega) (by omega) (by omega)).trans h_pt
            have h_pt_xs := (hn (o + 5) (by omega) (by omega) (by omega) (by omega) (by omega) (by omega) (by omega)).trans h_pt_xs
            have h_pt_ys := (hn (o + 6) (by omega) (by omega) (by omega) (by omega) (by omega) (by omega) (by omega)).trans h_pt_ys
            have hbg : ∀ i : Nat, i ≠ 3 → i ≠ 4 → i ≠ 5 → i ≠ 6 → i ≠ 7 → i ≠ 8 → i ≠ 9 → σ20 i = σ0 i := fun i a0 a1 a2 a3 a4 a5 a6 => (hn i a0 a1 a2 a3 a4 a5 a6).trans (hbg i a0 a1 a2 a3 a4 a5 a6)
            refine lz_iinc (lv' := [(5, .int (zI (x5 + 1))), (0, .ref (ad 3)), (2, .int (zI x2)), (4, .ref (ad (o + 4)))]) hx hb dX3_sewField_134 hl (j := 3) rfl (by decide) rfl (fun ls hl => ?_)
            refine lv_goto (tgt := 80) hx hb dX3_sewField_137 (by decide) ?_
            cases hf
            exact ih (x5 + 1) a9 a10 a11 a12 a13 a14 u15 u16 u17 u18 _ _ _ _ _ _ _ _ _ _ _ hnx _ _ _ hH h_fd h_pt h_pt_xs h_pt_ys h_pl h_pl_kinds h_pl_differencesX h_pl_differencesY h_pl_owners h_pl_kindCounts h_pl_threads hbg _ (lv_sub hl [1, 2, 3, 0] rfl) kx
  have J61 : ∀ (pl_kinds : Int → Int) (pl_differencesX : Int → Int) (pl_differencesY : Int → Int) (pl_owners : Int → Int) (pl_kindCounts : Int → Int) (pl_threads : Int → Int) (pl_size : Int) (pl_seconds : UInt32) (pl_needleX : Int) (pl_needleY : Int) (pl_colour : Int) (x2 : Int) (σ : Nat → va_E) (H : Heap) (locs : List Loc) (hH : zH D ad N (zFr ad N s.heap.size) s.heap σ H locs) (h_fd : σ o = oC_fd ad o fd_colour fd_layer fd_column fd_cornerCount fd_crossingCount fd_density fd_length fd_shift fd_pull fd_underlay fd_drawn) (h_pt : σ (o + 4) = oC_pt ad o pt_size) (h_pt_xs : σ (o + 5) = .inl (cI, 2078, .inl (zA pt_xs))) (h_pt_ys : σ (o + 6) = .inl (cI, 2078, .inl (zA pt_ys))) (h_pl : σ 3 = oC_pl ad pl_size pl_seconds pl_needleX pl_needleY pl_colour) (h_pl_kinds : σ 4 = .inl (cI, 16641, .inl (zA pl_kinds))) (h_pl_differencesX : σ 5 = .inl (cI, 16641, .inl (zA pl_differencesX))) (h_pl_differencesY : σ 6 = .inl (cI, 16641, .inl (zA pl_differencesY))) (h_pl_owners : σ 7 = .inl (cI, 16641, .inl (zA pl_owners))) (h_pl_kindCounts : σ 8 = .inl (cI, 5, .inl (zA pl_kindCounts))) (h_pl_threads : σ 9 = .inl (cI, 6, .inl (zA pl_threads))) (hbg : ∀ i : Nat, i ≠ 3 → i ≠ 4 → i ≠ 5 → i ≠ 6 → i ≠ 7 → i ≠ 8 → i ≠ 9 → σ i = σ0 i) (ls : Array Slot) (hl : lv_has ls 6 [(0, .ref (ad 3)), (2, .int (zI x2)), (4, .ref (ad (o + 4)))]), f_X3_sewField_61 fd_colour pt_xs pt_ys pt_size pl_kinds pl_differencesX pl_differencesY pl_owners pl_kindCounts pl_threads pl_size pl_seconds pl_needleX pl_needleY pl_colour x2 = some (R_pl_kinds, R_pl_differencesX, R_pl_differencesY, R_pl_owners, R_pl_kindCounts, R_pl_threads, R_pl_size, R_pl_seconds, R_pl_needleX, R_pl_needleY, R_pl_colour) → W p l e rmX3_sewField s m args below meth c H locs 0 0 Q (F0 m 61 ls []) := by
    intro pl_kinds pl_differencesX pl_differencesY pl_owners pl_kindCounts pl_threads pl_size pl_seconds pl_needleX pl_needleY pl_colour x2 σ H locs hH h_fd h_pt h_pt_xs h_pt_ys h_pl h_pl_kinds h_pl_differencesX h_pl_differencesY h_pl_owners h_pl_kindCounts h_pl_threads hbg ls hl hf
    unfold f_X3_sewField_61 at hf
    refine lv_aload_n hx hb dX3_sewField_61 rfl (lv_at hl 0 rfl) ?_
    refine lv_aload hx hb dX3_sewField_62 (lv_at hl 2 rfl) ?_
    obtain ⟨r21, k22, hf⟩ := zb1_some hf
    refine zcVi (C := RX4) (As := []) (rest := [.ref (ad 3)]) hx hb hml hown hts hl.1 hK hH hA (c_X4_firstX hI hN ho h_pt h_pt_xs k22) zk_t2_48 zk_t2_49 zk_t2_50 zk_t1_14 zk_t2_51 hd_X4_firstX rfl ⟨rfl, rfl, Nat.le_of_ble_eq_true rfl, Nat.le_of_ble_eq_true rfl⟩ ⟨Nat.zero_le _, Nat.zero_le _⟩ hk_pt h_pt rfl rfl rfl (Nat.le_of_ble_eq_true rfl) dX3_sewField_64 (fun q24 σ23 Hσ23 lσ23 hp hH => ?_)
    obtain ⟨hr1, hs1⟩ := hp; subst hr1; rw [hs1] at hH
    refine lv_aload hx hb dX3_sewField_67 (lv_at hl 2 rfl) ?_
    obtain ⟨r25, k26, hf⟩ := zb1_some hf
    refine zcVi (C := RX4) (As := []) (rest := [.int (zI r21), .ref (ad 3)]) hx hb hml hown hts hl.1 hK hH hA (c_X4_firstY hI hN ho h_pt h_pt_ys k26) zk_t2_52 zk_t2_53 zk_t2_54 zk_t1_14 zk_t2_55 hd_X4_firstY rfl ⟨rfl, rfl, Nat.le_of_ble_eq_true rfl, Nat.le_of_ble_eq_true rfl⟩ ⟨Nat.zero_le _, Nat.zero_le _⟩ hk_pt h_pt rfl rfl rfl (Nat.le_of_ble_eq_true rfl) dX3_sewField_69 (fun q28 σ27 Hσ27 lσ27 hp hH => ?_)
    obtain ⟨hr1, hs1⟩ := hp; subst hr1; rw [hs1] at hH
    refine lv_iload_n hx hb dX3_sewField_72 rfl (lv_at hl 1 rfl) ?_
    refine lv_iconst (v := zI 0) hx hb dX3_sewField_73 (by decide +kernel) ?_
    obtain ⟨a29, a30, a31, a32, a33, a34, u35, u36, u37, u38, k39, hf⟩ := zb10_some hf
    refine zcVv (C := RX3) (As := [.int (zI r21), .int (zI r25), .int (zI x2), .int (zI 0)]) (rest := []) hx hb hml hown hts hl.1 hK hH hA (c_X3_goTo hI hN  h_pl h_pl_kinds h_pl_differencesX h_pl_differencesY h_pl_owners h_pl_kindCounts h_pl_threads k39) zk_t2_77 zk_t2_79 zk_s1_10 zk_t1_2 zk_t2_80 hd_X3_goTo rfl ⟨rfl, rfl, Nat.le_of_ble_eq_true rfl, Nat.le_of_ble_eq_true rfl⟩ ⟨Nat.zero_le _, Nat.zero_le _⟩ hk_pl h_pl rfl rfl rfl (Nat.le_of_ble_eq_true rfl) dX3_sewField_74 (fun σ40 Hσ40 lσ40 hp hH => ?_)
    obtain ⟨h_pl, h_pl_kinds, h_pl_differencesX, h_pl_differencesY, h_pl_owners, h_pl_kindCounts, h_pl_threads, hn⟩ := hp
    have h_fd := (hn o (by omega) (by omega) (by omega) (by omega) (by omega) (by omega) (by omega)).trans h_fd
    have h_pt := (hn (o + 4) (by omega) (by omega) (by omega) (by omega) (by omega) (by omega) (by omega)).trans h_pt
    have h_pt_xs := (hn (o + 5) (by omega) (by omega) (by omega) (by omega) (by omega) (by omega) (by omega)).trans h_pt_xs
    have h_pt_ys := (hn (o + 6) (by omega) (by omega) (by omega) (by omega) (by omega) (by omega) (by omega)).trans h_pt_ys
    have hbg : ∀ i : Nat, i ≠ 3 → i ≠ 4 → i ≠ 5 → i ≠ 6 → i ≠ 7 → i ≠ 8 → i ≠ 9 → σ40 i = σ0 i := fun i a0 a1 a2 a3 a4 a5 a6 => (hn i a0 a1 a2 a3 a4 a5 a6).trans (hbg i a0 a1 a2 a3 a4 a5 a6)
    refine lv_iconst (v := zI 1) hx hb dX3_sewField_77 (by decide +kernel) ?_
    refine lv_istore (lv' := [(5, .int (zI 1)), (0, .ref (ad 3)), (2, .int (zI x2)), (4, .ref (ad (o + 4)))]) hx hb dX3_sewField_78 hl (by decide) rfl (fun ls hl => ?_)
    obtain ⟨w42, w43, w44, w45, w46, w47, w48, w49, w50, w51, w52, k41, hf⟩ := zb11_some hf
    refine L80 pl_colour x2 zFU 1 a29 a30 a31 a32 a33 a34 u35 u36 u37 u38 w42 w43 w44 w45 w46 w47 w48 w49 w50 w51 w52 k41 _ _ _ hH h_fd h_pt h_pt_xs h_pt_ys h_pl h_pl_kinds h_pl_differencesX h_pl_differencesY h_pl_owners h_pl_kindCounts h_pl_threads hbg _ (lv_sub hl [1, 2, 3, 0] rfl) (fun σ53 Hσ53 lσ53 hH h_fd h_pt h_pt_xs h_pt_ys h_pl h_pl_kinds h_pl_differencesX h_pl_differencesY h_pl_owners h_pl_kindCounts h_pl_threads hbg ls hl => ?_)
    cases hf
    exact zretv hx hb hr hlocks hQ hH ⟨h_pl, h_pl_kinds, h_pl_differencesX, h_pl_differencesY, h_pl_owners, h_pl_kindCounts, h_pl_threads, hbg⟩ dX3_sewField_140
  have J33 : ∀ (pl_kinds : Int → Int) (pl_differencesX : Int → Int) (pl_differencesY : Int → Int) (pl_owners : Int → Int) (pl_kindCounts : Int → Int) (pl_threads : Int → Int) (pl_size : Int) (pl_seconds : UInt32) (pl_needleX : Int) (pl_needleY : Int) (pl_colour : Int) (x2 : Int) (x3 : Int) (σ : Nat → va_E) (H : Heap) (locs : List Loc) (hH : zH D ad N (zFr ad N s.heap.size) s.heap σ H locs) (h_fd : σ o = oC_fd ad o fd_colour fd_layer fd_column fd_cornerCount fd_crossingCount fd_density fd_length fd_shift fd_pull fd_underlay fd_drawn) (h_pt : σ (o + 4) = oC_pt ad o pt_size) (h_pt_xs : σ (o + 5) = .inl (cI, 2078, .inl (zA pt_xs))) (h_pt_ys : σ (o + 6) = .inl (cI, 2078, .inl (zA pt_ys))) (h_pl : σ 3 = oC_pl ad pl_size pl_seconds pl_needleX pl_needleY pl_colour) (h_pl_kinds : σ 4 = .inl (cI, 16641, .inl (zA pl_kinds))) (h_pl_differencesX : σ 5 = .inl (cI, 16641, .inl (zA pl_differencesX))) (h_pl_differencesY : σ 6 = .inl (cI, 16641, .inl (zA pl_differencesY))) (h_pl_owners : σ 7 = .inl (cI, 16641, .inl (zA pl_owners))) (h_pl_kindCounts : σ 8 = .inl (cI, 5, .inl (zA pl_kindCounts))) (h_pl_threads : σ 9 = .inl (cI, 6, .inl (zA pl_threads))) (hbg : ∀ i : Nat, i ≠ 3 → i ≠ 4 → i ≠ 5 → i ≠ 6 → i ≠ 7 → i ≠ 8 → i ≠ 9 → σ i = σ0 i) (ls : Array Slot) (hl : lv_has ls 6 [(0, .ref (ad 3)), (1, .ref (ad o)), (2, .int (zI x2)), (3, .int (zI x3)), (4, .ref (ad (o + 4)))]), f_X3_sewField_33 fd_colour pt_xs pt_ys pt_size pl_kinds pl_differencesX pl_differencesY pl_owners pl_kindCounts pl_threads pl_size pl_seconds pl_needleX pl_needleY pl_colour x2 x3 = some (R_pl_kinds, R_pl_differencesX, R_pl_differencesY, R_pl_owners, R_pl_kindCounts, R_pl_threads, R_pl_size, R_pl_seconds, R_pl_needleX, R_pl_needleY, R_pl_colour) → W p l e rmX3_sewField s m args below meth c H locs 0 0 Q (F0 m 33 ls []) := by
    intro pl_kinds pl_differencesX pl_differencesY pl_owners pl_kindCounts pl_threads pl_size pl_seconds pl_needleX pl_needleY pl_colour x2 x3 σ H locs hH h_fd h_pt h_pt_xs h_pt_ys h_pl h_pl_kinds h_pl_differencesX h_pl_differencesY h_pl_owners h_pl_kindCounts h_pl_threads hbg ls hl hf
    unfold f_X3_sewField_33 at hf
    refine lv_aload_n hx hb dX3_sewField_33 rfl (lv_at hl 0 rfl) ?_
    refine lv_aload_n hx hb dX3_sewField_34 rfl (lv_at hl 1 rfl) ?_
    refine zget hx hb inlX0 rfl 0 rfl zk_t3_91 hts hown hK hH hk_fd h_fd rfl dX3_sewField_35 ?_
    refine zput hx hb inlX3 tyX3 tyX3_ok nmX3 rfl 10 rfl zk_t1_47 rfl hts hown hK hH hk_pl h_pl rfl rfl rfl dX3_sewField_38 (fun σ54 Hσ54 lσ54 h_pl hn hH => ?_)
    have h_pl : σ54 3 = oC_pl ad pl_size pl_seconds pl_needleX pl_needleY fd_colour := h_pl
    have h_fd := (hn o (by omega)).trans h_fd
    have h_pt := (hn (o + 4) (by omega)).trans h_pt
    have h_pt_xs := (hn (o + 5) (by omega)).trans h_pt_xs
    have h_pt_ys := (hn (o + 6) (by omega)).trans h_pt_ys
    have h_pl_kinds := (hn 4 (by decide)).trans h_pl_kinds
    have h_pl_differencesX := (hn 5 (by decide)).trans h_pl_differencesX
    have h_pl_differencesY := (hn 6 (by decide)).trans h_pl_differencesY
    have h_pl_owners := (hn 7 (by decide)).trans h_pl_owners
    have h_pl_kindCounts := (hn 8 (by decide)).trans h_pl_kindCounts
    have h_pl_threads := (hn 9 (by decide)).trans h_pl_threads
    have hbg : ∀ i : Nat, i ≠ 3 → i ≠ 4 → i ≠ 5 → i ≠ 6 → i ≠ 7 → i ≠ 8 → i ≠ 9 → σ54 i = σ0 i := fun i a0 a1 a2 a3 a4 a5 a6 => (hn i a0).trans (hbg i a0 a1 a2 a3 a4 a5 a6)
    refine lv_aload_n hx hb dX3_sewField_41 rfl (lv_at hl 0 rfl) ?_
    refine lv_aload hx hb dX3_sewField_42 (lv_at hl 4 rfl) ?_
    obtain ⟨r55, k56, hf⟩ := zb1_some hf
    refine zcVi (C := RX3) (As := [.ref (ad (o + 4))]) (rest := []) hx hb hml hown hts hl.1 hK hH hA (c_X3_squareToFirst hI hN ho h_pt h_pt_xs h_pt_ys h_pl k56) zk_t2_76 zk_t2_45 zk_t2_46 zk_t1_2 zk_t2_47 hd_X3_squareToFirst rfl ⟨rfl, rfl, Nat.le_of_ble_eq_true rfl, Nat.le_of_ble_eq_true rfl⟩ ⟨Nat.zero_le _, Nat.zero_le _⟩ hk_pl h_pl rfl rfl rfl (Nat.le_of_ble_eq_true rfl) dX3_sewField_44 (fun q58 σ57 Hσ57 lσ57 hp hH => ?_)
    obtain ⟨hr1, hs1⟩ := hp; subst hr1; rw [hs1] at hH
    refine lv_iload_n hx hb dX3_sewField_47 rfl (lv_at hl 3 rfl) ?_
    refine lv_iload_n hx hb dX3_sewField_48 rfl (lv_at hl 3 rfl) ?_
    refine lz_imul hx hb dX3_sewField_49 ?_
    obtain ⟨k59, hf⟩ := zck_some hf
    refine lz_icmp_le (tgt := 61) hx hb k59 dX3_sewField_50 (by decide) (fun c60 => ?_) (fun c60 => ?_)
    · replace hf := (if_pos c60).symm.trans hf
      exact J61 pl_kinds pl_differencesX pl_differencesY pl_owners pl_kindCounts pl_threads pl_size pl_seconds pl_needleX pl_needleY fd_colour x2 _ _ _ hH h_fd h_pt h_pt_xs h_pt_ys h_pl h_pl_kinds h_pl_differencesX h_pl_differencesY h_pl_owners h_pl_kindCounts h_pl_threads hbg _ (lv_sub hl [0, 2, 4] rfl) hf
    · replace hf := (if_neg c60).symm.trans hf
      refine lv_aload_n hx hb dX3_sewField_53 rfl (lv_at hl 0 rfl) ?_
      refine lv_iconst (v := zI 2) hx hb dX3_sewField_54 (by decide +kernel) ?_
      refine lv_iconst (v := zI 0) hx hb dX3_sewField_55 (by decide +kernel) ?_
      refine lv_iconst (v := zI 0) hx hb dX3_sewField_56 (by decide +kernel) ?_
      refine lv_iconst (v := zI (-1)) hx hb dX3_sewField_57 (by decide +kernel) ?_
      obtain ⟨a61, a62, a63, a64, a65, a66, u67, u68, k69, hf⟩ := zb8_some hf
      refine zcVv (C := RX3) (As := [.int (zI 2), .int (zI 0), .int (zI 0), .int (zI (-1))]) (rest := []) hx hb hml hown hts hl.1 hK hH hA (c_X3_put hI hN  h_pl h_pl_kinds h_pl_differencesX h_pl_differencesY h_pl_owners h_pl_kindCounts h_pl_threads k69) zk_t2_60 zk_t2_61 zk_t2_62 zk_t1_2 zk_t2_63 hd_X3_put rfl ⟨rfl, rfl, Nat.le_of_ble_eq_true rfl, Nat.le_of_ble_eq_true rfl⟩ ⟨Nat.zero_le _, Nat.zero_le _⟩ hk_pl h_pl rfl rfl rfl (Nat.le_of_ble_eq_true rfl) dX3_sewField_58 (fun σ70 Hσ70 lσ70 hp hH => ?_)
      obtain ⟨h_pl, h_pl_kinds, h_pl_differencesX, h_pl_differencesY, h_pl_owners, h_pl_kindCounts, h_pl_threads, hn⟩ := hp
      have h_fd := (hn o (by omega) (by omega) (by omega) (by omega) (by omega) (by omega) (by omega)).trans h_fd
      have h_pt := (hn (o + 4) (by omega) (by omega) (by omega) (by omega) (by omega) (by omega) (by omega)).trans h_pt
      have h_pt_xs := (hn (o + 5) (by omega) (by omega) (by omega) (by omega) (by omega) (by omega) (by omega)).trans h_pt_xs
      have h_pt_ys := (hn (o + 6) (by omega) (by omega) (by omega) (by omega) (by omega) (by omega) (by omega)).trans h_pt_ys
      have hbg : ∀ i : Nat, i ≠ 3 → i ≠ 4 → i ≠ 5 → i ≠ 6 → i ≠ 7 → i ≠ 8 → i ≠ 9 → σ70 i = σ0 i := fun i a0 a1 a2 a3 a4 a5 a6 => (hn i a0 a1 a2 a3 a4 a5 a6).trans (hbg i a0 a1 a2 a3 a4 a5 a6)
      exact J61 a61 a62 a63 a64 a65 a66 u67 u68 pl_needleX pl_needleY fd_colour x2 _ _ _ hH h_fd h_pt h_pt_xs h_pt_ys h_pl h_pl_kinds h_pl_differencesX h_pl_differencesY h_pl_owners h_pl_kindCounts h_pl_threads hbg _ (lv_sub hl [0, 2, 4] rfl) hf
  unfold f_X3_sewField at hf
  refine lv_aload_n hx hb dX3_sewField_0 rfl (lv_at hl 1 rfl) ?_
  refine zget hx hb inlX0 rfl 6 rfl zk_t3_101 hts hown hK hH hk_fd h_fd rfl dX3_sewField_1 ?_
  refine lv_astore (lv' := [(4, .ref (ad (o + 4))), (0, .ref (ad 3)), (1, .ref (ad o)), (2, .int (zI p2)), (3, .int (zI p3))]) hx hb dX3_sewField_4 hl (by decide) rfl (fun ls hl => ?_)
  refine lv_aload_n hx hb dX3_sewField_6 rfl (lv_at hl 1 rfl) ?_
  refine zget hx hb inlX3 rfl 10 rfl zk_t1_47 hts hown hK hH hk_pl h_pl rfl dX3_sewField_7 ?_
  refine lv_iconst (v := zI (-1)) hx hb dX3_sewField_10 (by decide +kernel) ?_
  obtain ⟨k71, hf⟩ := zck_some hf
  refine lz_icmp_eq (tgt := 33) hx hb ⟨k71, by decide⟩ dX3_sewField_11 (by decide) (fun c72 => ?_) (fun c72 => ?_)
  · replace hf := (if_pos c72).symm.trans hf
    exact J33 pl_kinds pl_differencesX pl_differencesY pl_owners pl_kindCounts pl_threads pl_size pl_seconds pl_needleX pl_needleY pl_colour p2 p3 _ _ _ hH h_fd h_pt h_pt_xs h_pt_ys h_pl h_pl_kinds h_pl_differencesX h_pl_differencesY h_pl_owners h_pl_kindCounts h_pl_threads hbg _ (lv_sub hl [1, 2, 3, 4, 0] rfl) hf
  · replace hf := (if_neg c72).symm.trans hf
    refine lv_aload_n hx hb dX3_sewField_14 rfl (lv_at hl 1 rfl) ?_
    refine zget hx hb inlX3 rfl 10 rfl zk_t1_47 hts hown hK hH hk_pl h_pl rfl dX3_sewField_15 ?_
    refine lv_aload_n hx hb dX3_sewField_18 rfl (lv_at hl 2 rfl) ?_
    refine zget hx hb inlX0 rfl 0 rfl zk_t3_91 hts hown hK hH hk_fd h_fd rfl dX3_sewField_19 ?_
    obtain ⟨k73, hf⟩ := zck_some hf
    refine lz_icmp_eq (tgt := 33) hx hb k73 dX3_sewField_22 (by decide) (fun c74 => ?_) (fun c74 => ?_)
    · replace hf := (if_pos c74).symm.trans hf
      exact J33 pl_kinds pl_differencesX pl_differencesY pl_owners pl_kindCounts pl_threads pl_size pl_seconds pl_needleX pl_needleY pl_colour p2 p3 _ _ _ hH h_fd h_pt h_pt_xs h_pt_ys h_pl h_pl_kinds h_pl_differencesX h_pl_differencesY h_pl_owners h_pl_kindCounts h_pl_threads hbg _ (lv_sub hl [1, 2, 3, 4, 0] rfl) hf
    · replace hf := (if_neg c74).symm.trans hf
      refine lv_aload_n hx hb dX3_sewField_25 rfl (lv_at hl 1 rfl) ?_
      refine lv_iconst (v := zI 3) hx hb dX3_sewField_26 (by decide +kernel) ?_
      refine lv_iconst (v := zI 0) hx hb dX3_sewField_27 (by decide +kernel) ?_
      refine lv_iconst (v := zI 0) hx hb dX3_sewField_28 (by decide +kernel) ?_
      refine lv_iconst (v := zI (-1)) hx hb dX3_sewField_29 (by decide +kernel) ?_
      obtain ⟨a75, a76, a77, a78, a79, a80, u81, u82, k83, hf⟩ := zb8_some hf
      refine zcVv (C := RX3) (As := [.int (zI 3), .int (zI 0), .int (zI 0), .int (zI (-1))]) (rest := []) hx hb hml hown hts hl.1 hK hH hA (c_X3_put hI hN  h_pl h_pl_kinds h_pl_differencesX h_pl_differencesY h_pl_owners h_pl_kindCounts h_pl_threads k83) zk_t2_60 zk_t2_61 zk_t2_62 zk_t1_2 zk_t2_63 hd_X3_put rfl ⟨rfl, rfl, Nat.le_of_ble_eq_true rfl, Nat.le_of_ble_eq_true rfl⟩ ⟨Nat.zero_le _, Nat.zero_le _⟩ hk_pl h_pl rfl rfl rfl (Nat.le_of_ble_eq_true rfl) dX3_sewField_30 (fun σ84 Hσ84 lσ84 hp hH => ?_)
      obtain ⟨h_pl, h_pl_kinds, h_pl_differencesX, h_pl_differencesY, h_pl_owners, h_pl_kindCounts, h_pl_threads, hn⟩ := hp
      have h_fd := (hn o (by omega) (by omega) (by omega) (by omega) (by omega) (by omega) (by omega)).trans h_fd
      have h_pt := (hn (o + 4) (by omega) (by omega) (by omega) (by omega) (by omega) (by omega) (by omega)).trans h_pt
      have h_pt_xs := (hn (o + 5) (by omega) (by omega) (by omega) (by omega) (by omega) (by omega) (by omega)).trans h_pt_xs
      have h_pt_ys := (hn (o + 6) (by omega) (by omega) (by omega) (by omega) (by omega) (by omega) (by omega)).trans h_pt_ys
      have hbg : ∀ i : Nat, i ≠ 3 → i ≠ 4 → i ≠ 5 → i ≠ 6 → i ≠ 7 → i ≠ 8 → i ≠ 9 → σ84 i = σ0 i := fun i a0 a1 a2 a3 a4 a5 a6 => (hn i a0 a1 a2 a3 a4 a5 a6).trans (hbg i a0 a1 a2 a3 a4 a5 a6)
      exact J33 a75 a76 a77 a78 a79 a80 u81 u82 pl_needleX pl_needleY pl_colour p2 p3 _ _ _ hH h_fd h_pt h_pt_xs h_pt_ys h_pl h_pl_kinds h_pl_differencesX h_pl_differencesY h_pl_owners h_pl_kindCounts h_pl_threads hbg _ (lv_sub hl [1, 2, 3, 4, 0] rfl) hf
