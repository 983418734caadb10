section ZFi
variable {p : Program} {l : Launch} {e : Env} {R : Room} {s : State} {m : MethodId} {args : Array Value} {below : List Frame} {meth : Method} {c : Code} {H : Heap} {locs : List Loc} {cells slots : Nat} {Q : State → Prop}
variable {cc : ByteArray} {pc : Nat} {ls : Array Slot} {rest : List Value} {D : va_G} {T : List (ClassId × FieldType)} {cA : ClassId} {ad : Nat → Nat} {N k : Nat} {σ : Nat → va_E} {A : Nat → Prop} {H0 : Heap}
theorem zaast (hx : p.tables.exec = Jvm.exec) (hb : c.code = cc) (hK : zK D T s) (hH : zH D ad N A H0 σ H locs) (hk : k < N) (t0 : Nat) {n kv ci : Nat} {f : Nat → Option Nat} {r : vw_C} {vs : List Value} (hσ : σ k = .inl (cA, n, .inr (.inr (.inr (.inr f))))) (ht : T[t0]? = some (cA, .object r.1)) (hkv : kv < N) (hv : σ kv = .inr (ci, vs)) (hc : vwCl[ci]? = some r) {i : Int} (hi : 0 ≤ i ∧ i < (n : Int)) (hn : Nat.blt n 2147483648 = true) (hdg : decode cc pc = .ok (.aastore, 1))
    (kk : ∀ (σ1 : Nat → va_E) (H1 : Heap) (locs1 : List Loc), σ1 k = .inl (cA, n, .inr (.inr (.inr (.inr (va_up f i.toNat (some (ad kv))))))) → (∀ j, j ≠ k → σ1 j = σ j) → zH D ad N A H0 σ1 H1 locs1 → W p l e R s m args below meth c H1 locs1 cells slots Q (F0 m (pc + 1) ls rest)) : W p l e R s m args below meth c H locs cells slots Q (F0 m pc ls (.ref (ad kv) :: .int (zI i) :: .ref (ad k) :: rest)) := by
  have hn1 : n < 2147483648 := Nat.le_of_ble_eq_true hn
  refine va_astq (D := D) hx hb hK.1 hH.1 hH.2.1 hH.2.2 k t0 kv ci (zl_atE hk hσ) ht (zl_atE hkv hv) hc (zI_in hi hn1) hdg (fun H1 locs1 hP hD hS => ?_)
  rw [zl_set hk, zI_cl hi hn1] at hP hD
  exact kk _ H1 locs1 (if_pos rfl) (fun i hi => if_neg hi) ⟨hP, hD, hS⟩
def zQni (D : va_G) (ad : Nat → Nat) (N N' sz : Nat) (P : Int32 → (Nat → Nat) → (Nat → va_E) → Prop) : Array Value → State → Outcome → State → Prop := va_Qi (fun (r : Int32) (u : (Nat → Nat) × (Nat → va_E)) => (∀ i, i < N → u.1 i = ad i) ∧ P r u.1 u.2) (fun u t => va_P D vwCl (zl u.1 N' u.2) t.heap ∧ va_D (zFr ad N sz) (zl u.1 N' u.2)) (zFr ad N sz)
theorem zxretn (hx : p.tables.exec = Jvm.exec) (hb : c.code = cc) (hr : meth.sig.returnType = some .int) (hlocks : meth.locks = false) {v : Int32} {ad0 : Nat → Nat} {N0 mc ms : Nat} {XC : String → State → State → Prop} {P : Int32 → (Nat → Nat) → (Nat → va_E) → Prop} (hQ : Q = vx_MQ below (zQni D ad0 N0 N s.heap.size P) XC args s mc ms (zFr ad0 N0 s.heap.size)) (hH : zH D ad N (zFr ad0 N0 s.heap.size) s.heap σ H locs) (hp : (∀ i, i < N0 → ad i = ad0 i) ∧ P v ad σ) (hc : cells ≤ mc ∧ slots ≤ ms) (hdg : decode cc pc = .ok (.ireturn, 1)) : W p l e R s m args below meth c H locs cells slots Q (F0 m pc ls [.int v]) := by
  subst hQ
  exact W.widen hc.1 hc.2 (vx_ret (W.iret (v := v) hx hb hr (fun t ht hW => ⟨⟨v, (ad, σ), rfl, hp, by show va_P D vwCl (zl ad N σ) t.heap ∧ va_D _ (zl ad N σ); rw [ht]; exact ⟨hH.1, hH.2.1⟩⟩, hH.2.2.F ht⟩) hH.2.2.2.2 hdg hlocks))
end ZFi
theorem zFA_push {ad ad' : Nat → Nat} {nF : Int} {N : Nat} (h0 : 0 ≤ nF) (hNF : N = 19 + 7 * nF.toNat) (h : ∀ i, i < N → ad' i = ad i) : va_up (zFA ad nF) nF.toNat (some (ad' N)) = zFA ad' (nF + 1) := by
  funext j
  unfold va_up
  have hfB : fB nF = N := by unfold fB; omega
  by_cases hj : j = nF.toNat
  · rw [if_pos hj]
    have : (j : Int) = nF := by omega
    show _ = zfo ad' (nF + 1) (j : Int)
    rw [this, zfo_some (by omega), hfB]
  · rw [if_neg hj]
    show zfo ad nF (j : Int) = zfo ad' (nF + 1) (j : Int)
    by_cases h1 : (j : Int) < nF
    · rw [zfo_some (by omega), zfo_some (by omega), h _ (by unfold fB; omega)]
    · rw [zfo_none (by omega), zfo_none (by omega)]
def f_X6_field (sp_fieldCount : Int) (sp_planned : Int) (nF : Int) (p1 : Int) (p2 : Int) (p3 : Int) : Option (Int × Int × Int × Int × Int) :=
  zb1 (f_X6_isWithin p1 0 5) fun r1 =>
  zck (zR r1) <|
  if r1 = 0 then
    some (1, 0, sp_fieldCount, sp_planned, nF)
  else
    zb1 (f_X6_isWithin p2 0 3) fun r7 =>
    zck (zR r7) <|
    if r7 = 0 then
      some (1, 0, sp_fieldCount, sp_planned, nF)
    else
      zck (zR sp_fieldCount) <|
      if 8 ≤ sp_fieldCount then
        some (2, 0, sp_fieldCount, sp_planned, nF)
      else
        zck (zR sp_fieldCount) <|
        if sp_fieldCount < 8 then
          zck (0 ≤ sp_fieldCount ∧ sp_fieldCount < 8) <|
          zck (sp_fieldCount = nF) <|
          some (0, sp_fieldCount, sp_fieldCount + 1, 0, nF + 1)
        else
          some (2, 0, sp_fieldCount, sp_planned, nF)
abbrev rmX6_field : Room := { frames := 6, cells := 7, slots := 4198, locals := 92 }
theorem hd_X6_field : yX6_field.cls = RX6 ∧ yX6_field.cls ≠ "java/lang/invoke/MethodHandle" ∧ yX6_field.cls ≠ "java/lang/invoke/VarHandle" ∧ (parseMethodDescriptor yX6_field.desc).map (fun d => d.parameters.length) = some 3 := by decide +kernel
set_option maxHeartbeats 4000000 in
set_option maxRecDepth 100000 in
theorem c_X6_field {l : Launch} {D : va_G} {cI cZ cF cL cD : ClassId} {ad : Nat → Nat} {N : Nat} (hI : ∀ i j, i < N → j < N → ad i = ad j → i = j) (hN : 19 ≤ N) {nF : Int} (hNF : N = 19 + 7 * nF.toNat) (hst : l.stackTraces = false) {σ0 : Nat → va_E} {sz : Nat} {sp_fieldCount sp_trimBound sp_planned : Int} {F_fd_colour : Int → Int} {F_fd_layer : Int → Int} {F_fd_column : Int → Int} {F_fd_cornerXs : Int → Int → Int} {F_fd_cornerYs : Int → Int → Int} {F_fd_crossings : Int → Int → Int} {F_fd_cornerCount : Int → Int} {F_fd_crossingCount : Int → Int} {F_fd_density : Int → Int} {F_fd_length : Int → Int} {F_fd_shift : Int → Int} {F_fd_pull : Int → Int} {F_fd_underlay : Int → Int} {F_fd_drawn : Int → Int} {F_pt_xs : Int → Int → Int} {F_pt_ys : Int → Int → Int} {F_pt_size : Int → Int} {p1 p2 p3 Rt R0 R_fc R_pl R_nF : Int} (h_sp : σ0 0 = oC_sp ad sp_fieldCount sp_trimBound sp_planned) (h_sp_fields : σ0 1 = .inl (cF, 8, .inr (.inr (.inr (.inr (zFA ad nF)))))) (h_FF : zFF ad cI nF σ0 F_fd_colour F_fd_layer F_fd_column F_fd_cornerXs F_fd_cornerYs F_fd_crossings F_fd_cornerCount F_fd_crossingCount F_fd_density F_fd_length F_fd_shift F_fd_pull F_fd_underlay F_fd_drawn F_pt_xs F_pt_ys F_pt_size) (hp3 : p3 = 0 ∨ p3 = 1) (hf : f_X6_field sp_fieldCount sp_planned nF p1 p2 p3 = some (Rt, R0, R_fc, R_pl, R_nF)) :
    vx_Met l yX6_field (Cond.code yX6_field cX6_field 5 (some .int) :: wsL_law) rmX6_field (zPreX D ad N (zT cI cZ cF cL cD) σ0 sz [.ref (ad 0), .int (zI p1), .int (zI p2), .int (zI p3)]) (zQni D ad N (N + 7) sz (fun r ad' σ' => Rt = 0 ∧ r = zI R0 ∧ R_nF = nF + 1 ∧ σ' 0 = oC_sp ad' R_fc sp_trimBound R_pl ∧ σ' 1 = .inl (cF, 8, .inr (.inr (.inr (.inr (zFA ad' R_nF))))) ∧ zFF ad' cI R_nF σ' (zup F_fd_colour nF p1) (zup F_fd_layer nF p2) (zup F_fd_column nF p3) (zup F_fd_cornerXs nF (fun _ => 0)) (zup F_fd_cornerYs nF (fun _ => 0)) (zup F_fd_crossings nF (fun _ => 0)) (zup F_fd_cornerCount nF 0) (zup F_fd_crossingCount nF 0) (zup F_fd_density nF 2) (zup F_fd_length nF 6) (zup F_fd_shift nF 0) (zup F_fd_pull nF 0) (zup F_fd_underlay nF 0) (zup F_fd_drawn nF 0) (zup F_pt_xs nF (fun _ => 0)) (zup F_pt_ys nF (fun _ => 0)) (zup F_pt_size nF 0) ∧ ∀ i, i < 19 → i ≠ 0 → i ≠ 1 → σ' i = σ0 i)) (zXC D ad N sz Rt (fun σ' => σ' = σ0)) 7 4198 (zFr ad N sz) := by
  refine zMetX hI (by decide) (Nat.le_of_ble_eq_true rfl) ?_
  intro p e s m args below meth c Q hx hb hr hlocks hml hown hts hnh hK hX hsz hQ hH hA ls hl
  subst hsz
  have hk_sp : 0 < N := by omega
  have hk_sp_fields : 1 < N := by omega
  have hl : lv_has ls 5 [(0, .ref (ad 0)), (1, .int (zI p1)), (2, .int (zI p2)), (3, .int (zI p3))] := hl
  have hbg : σ0 = σ0 := rfl
  unfold f_X6_field at hf
  refine lv_iload_n hx hb dX6_field_0 rfl (lv_at hl 1 rfl) ?_
  refine lv_iconst (v := zI 0) hx hb dX6_field_1 (by decide +kernel) ?_
  refine lv_iconst (v := zI 5) hx hb dX6_field_2 (by decide +kernel) ?_
  obtain ⟨r1, k2, hf⟩ := zb1_some hf
  refine zcSi (As := [.int (zI p1), .int (zI 0), .int (zI 5)]) (rest := []) hx hb hml hown hts hl.1 hK hH hA (c_X6_isWithin hI hN   k2) zk_t2_87 zk_t2_88 zk_t1_1 zk_t2_89 hd_X6_isWithin rfl ⟨rfl, rfl, Nat.le_of_ble_eq_true rfl, Nat.le_of_ble_eq_true rfl⟩ ⟨by decide, by decide⟩ rfl (Nat.le_of_ble_eq_true rfl) dX6_field_3 (fun q4 σ3 Hσ3 lσ3 hp hH => ?_)
  obtain ⟨hr1, hs1⟩ := hp; subst hr1; rw [hs1] at hH
  obtain ⟨k5, hf⟩ := zck_some hf
  refine lz_if_ne (tgt := 19) hx hb k5 dX6_field_6 (by decide) (fun c6 => ?_) (fun c6 => ?_)
  · replace hf := (if_neg c6).symm.trans hf
    refine lv_iload_n hx hb dX6_field_19 rfl (lv_at hl 2 rfl) ?_
    refine lv_iconst (v := zI 0) hx hb dX6_field_20 (by decide +kernel) ?_
    refine lv_iconst (v := zI 3) hx hb dX6_field_21 (by decide +kernel) ?_
    obtain ⟨r7, k8, hf⟩ := zb1_some hf
    refine zcSi (As := [.int (zI p2), .int (zI 0), .int (zI 3)]) (rest := []) hx hb hml hown hts hl.1 hK hH hA (c_X6_isWithin hI hN   k8) zk_t2_87 zk_t2_88 zk_t1_1 zk_t2_89 hd_X6_isWithin rfl ⟨rfl, rfl, Nat.le_of_ble_eq_true rfl, Nat.le_of_ble_eq_true rfl⟩ ⟨by decide, by decide⟩ rfl (Nat.le_of_ble_eq_true rfl) dX6_field_22 (fun q10 σ9 Hσ9 lσ9 hp hH => ?_)
    obtain ⟨hr1, hs1⟩ := hp; subst hr1; rw [hs1] at hH
    obtain ⟨k11, hf⟩ := zck_some hf
    refine lz_if_ne (tgt := 38) hx hb k11 dX6_field_25 (by decide) (fun c12 => ?_) (fun c12 => ?_)
    · replace hf := (if_neg c12).symm.trans hf
      refine lv_aload_n hx hb dX6_field_38 rfl (lv_at hl 0 rfl) ?_
      refine zget hx hb inlX6 rfl 6 rfl zk_t1_155 hts hown hK hH hk_sp h_sp rfl dX6_field_39 ?_
      refine lv_bipush (v := zI 8) hx hb dX6_field_42 (by decide +kernel) ?_
      obtain ⟨k13, hf⟩ := zck_some hf
      refine lz_icmp_ge (tgt := 59) hx hb ⟨k13, by decide⟩ dX6_field_44 (by decide) (fun c14 => ?_) (fun c14 => ?_)
      · replace hf := (if_pos c14).symm.trans hf
        cases hf
        exact zthr_s hx hb hst hQ hnh hlocks hown hts zk_t3_46 zk_t1_12 hX (is := 69) (text := "there are 8 fields") (by decide +kernel) (hl.1.trans hml.symm) hH hbg ⟨by decide, by decide, by decide, by decide⟩ ⟨by decide, by decide⟩ dX6_field_59 dX6_field_62 dX6_field_63 dX6_field_65 dX6_field_68
      · replace hf := (if_neg c14).symm.trans hf
        refine lv_aload_n hx hb dX6_field_47 rfl (lv_at hl 0 rfl) ?_
        refine zget hx hb inlX6 rfl 6 rfl zk_t1_155 hts hown hK hH hk_sp h_sp rfl dX6_field_48 ?_
        refine lv_aload_n hx hb dX6_field_51 rfl (lv_at hl 0 rfl) ?_
        refine zget hx hb inlX6 rfl 0 rfl zk_t1_149 hts hown hK hH hk_sp h_sp rfl dX6_field_52 ?_
        refine zalen (z := 8) hx hb hK hH hk_sp_fields 2 h_sp_fields rfl (show Int32.ofNat 8 = zI 8 by decide +kernel) dX6_field_55 ?_
        obtain ⟨k15, hf⟩ := zck_some hf
        refine lz_icmp_lt (tgt := 69) hx hb ⟨k15, by decide⟩ dX6_field_56 (by decide) (fun c16 => ?_) (fun c16 => ?_)
        · replace hf := (if_pos c16).symm.trans hf
          refine lv_aload_n hx hb dX6_field_69 rfl (lv_at hl 0 rfl) ?_
          refine zget hx hb inlX6 rfl 6 rfl zk_t1_155 hts hown hK hH hk_sp h_sp rfl dX6_field_70 ?_
          refine lv_istore (lv' := [(4, .int (zI sp_fieldCount)), (0, .ref (ad 0)), (1, .int (zI p1)), (2, .int (zI p2)), (3, .int (zI p3))]) hx hb dX6_field_73 hl (by decide) rfl (fun ls hl => ?_)
          obtain ⟨k90, hf⟩ := zck_some hf
          obtain ⟨k91, hf⟩ := zck_some hf
          cases hf
          subst k91
          have hfB : fB sp_fieldCount = N := by unfold fB; omega
          refine lv_aload_n hx hb dX6_field_75 rfl (lv_at hl 1 rfl) ?_
          refine zget hx hb inlX6 rfl 0 rfl zk_t1_149 hts hown hK hH hk_sp h_sp rfl dX6_field_76 ?_
          refine lv_iload hx hb dX6_field_79 (lv_at hl 0 rfl) ?_
          refine znew hx hb hts inlX0 tyX0 tyX0_ok hown zk_t1_23 zk_t1_204 zk_t1_13 hK hH hA (ci := 0) rfl (fs := [.int 0, .int 0, .int 0, .null, .null, .null, .null, .int 0, .int 0, .int 0, .int 0, .int 0, .int 0, .int 0, .int 0]) (fun j hj => match j, hj with | 0, _ => rfl | 1, _ => rfl | 2, _ => rfl | 3, _ => rfl | 4, _ => rfl | 5, _ => rfl | 6, _ => rfl | 7, _ => rfl | 8, _ => rfl | 9, _ => rfl | 10, _ => rfl | 11, _ => rfl | 12, _ => rfl | 13, _ => rfl | 14, _ => rfl | q + 15, h => absurd h (by omega)) (by decide) (by decide) dX6_field_81 (fun q ad1 τ1 H1 ha1 gq hs1 h_N hH => ?_)
          refine lv_dup hx hb dX6_field_84 rfl ?_
          refine lv_iload_n hx hb dX6_field_85 rfl (lv_at hl 2 rfl) ?_
          refine lv_iload_n hx hb dX6_field_86 rfl (lv_at hl 3 rfl) ?_
          refine lv_iload_n hx hb dX6_field_87 rfl (lv_at hl 4 rfl) ?_
          rw [← gq]
          refine zcI (k := N) (As := [.int (zI p1), .int (zI p2), .int (zI p3)]) (rest := [.ref (ad1 N), .int (zI sp_fieldCount), .ref (ad 1)]) hx hb hml hown hts hl.1 hK hH hA (c_X0_init (o := N) (zD_inj hH.2.1) h_N hp3) (by omega) zk_t3_62 zk_t3_63 zk_t1_13 zk_t3_64 rfl hd_X0_init rfl ⟨rfl, rfl, Nat.le_of_ble_eq_true rfl, Nat.le_of_ble_eq_true rfl⟩ ⟨by decide, by decide⟩ rfl (Nat.le_of_ble_eq_true rfl) dX6_field_88 (fun ad2 τ2 H2 l2 ha2 hp hH => ?_)
          obtain ⟨b0, b1, b2, b3, b4, b5, b6, hs2⟩ := hp
          have hba : ∀ i, i < N → ad2 i = ad i := fun i hi => (ha2 i (by omega)).trans (ha1 i hi)
          have hbs : ∀ i, i < N → τ2 i = σ0 i := fun i hi => (hs2 i hi).trans (hs1 i hi)
          rw [← ha2 N (by omega), ← hba 1 (by omega)]
          refine zaast hx hb hK hH (show 1 < N + 7 by omega) 2 (r := (RX0, TX0, 15)) ((hbs 1 (by omega)).trans h_sp_fields) rfl (show N < N + 7 by omega) b0 rfl k90 rfl dX6_field_91 (fun τ3 H3 l3 h_sp_fields hn hH => ?_)
          rw [zFA_push k90.1 hNF hba] at h_sp_fields
          have h_sp : τ3 0 = oC_sp ad2 sp_fieldCount sp_trimBound sp_planned := by rw [hn 0 (by decide), hbs 0 (by omega), h_sp]; simp only [oC_sp, hba 1 (by omega), hba 2 (by omega), hba 3 (by omega), hba 10 (by omega), hba 12 (by omega), hba 14 (by omega)]
          have hbs : ∀ i, 1 < i → τ3 i = τ2 i := fun i hi => hn i (by omega)
          refine lv_aload_n hx hb dX6_field_92 rfl (lv_at hl 1 rfl) ?_
          refine lv_iload hx hb dX6_field_93 (lv_at hl 0 rfl) ?_
          refine lv_iconst (v := zI 1) hx hb dX6_field_95 (by decide +kernel) ?_
          refine lz_iadd hx hb dX6_field_96 ?_
          rw [← hba 0 (by omega)]
          refine zput hx hb inlX6 tyX6 tyX6_ok nmX6 rfl 6 rfl zk_t1_155 rfl hts hown hK hH (show 0 < N + 7 by omega) h_sp rfl rfl rfl dX6_field_97 (fun τ4 H4 l4 h_sp hn4 hH => ?_)
          have h_sp : τ4 0 = oC_sp ad2 (sp_fieldCount + 1) sp_trimBound sp_planned := h_sp
          refine lv_aload_n hx hb dX6_field_100 rfl (lv_at hl 1 rfl) ?_
          refine lv_iconst (v := zI 0) hx hb dX6_field_101 (by decide +kernel) ?_
          rw [← hba 0 (by omega)]
          refine zput hx hb inlX6 tyX6 tyX6_ok nmX6 rfl 8 rfl zk_t1_157 rfl hts hown hK hH (show 0 < N + 7 by omega) h_sp rfl rfl rfl dX6_field_102 (fun τ5 H5 l5 h_sp hn5 hH => ?_)
          have h_sp : τ5 0 = oC_sp ad2 (sp_fieldCount + 1) sp_trimBound 0 := h_sp
          have hbt : ∀ i, 1 < i → τ5 i = τ2 i := fun i hi => (hn5 i (by omega)).trans ((hn4 i (by omega)).trans (hbs i hi))
          refine lv_iload hx hb dX6_field_105 (lv_at hl 0 rfl) ?_
          refine zxretn hx hb hr hlocks hQ hH ⟨hba, rfl, rfl, rfl, h_sp, ((hn5 1 (by decide)).trans (hn4 1 (by decide))).trans h_sp_fields, ?_, fun i h46 a0 a1 => (hbt i (by omega)).trans ((hs2 i (by omega)).trans (hs1 i (by omega)))⟩ ⟨by decide, by decide⟩ dX6_field_107
          intro z h0 h1
          by_cases hz : z = sp_fieldCount
          · subst hz
            rw [hfB]
            simp only [zup_s]
            exact ⟨(hbt _ (by omega)).trans b0, (hbt _ (by omega)).trans b1, (hbt _ (by omega)).trans b2, (hbt _ (by omega)).trans b3, (hbt _ (by omega)).trans b4, (hbt _ (by omega)).trans b5, (hbt _ (by omega)).trans b6⟩
          · obtain ⟨a0, a1, a2, a3, a4, a5, a6⟩ := h_FF z h0 (by omega)
            have g1 := fB_ge z
            have g2 : fB z + 7 ≤ N := fB_le hNF (by omega)
            have old : ∀ c, c < 7 → τ5 (fB z + c) = σ0 (fB z + c) := fun c hc => (hbt _ (by omega)).trans ((hs2 _ (by omega)).trans (hs1 _ (by omega)))
            simp only [zup_n hz]
            refine ⟨((old 0 (by decide)).trans a0).trans ?_, (old 1 (by decide)).trans a1, (old 2 (by decide)).trans a2, (old 3 (by decide)).trans a3, ((old 4 (by decide)).trans a4).trans ?_, (old 5 (by decide)).trans a5, (old 6 (by decide)).trans a6⟩
            · simp only [oC_fd, hba _ (show fB z + 1 < N by omega), hba _ (show fB z + 2 < N by omega), hba _ (show fB z + 3 < N by omega), hba _ (show fB z + 4 < N by omega)]
            · simp only [oC_pt, hba _ (show fB z + 5 < N by omega), hba _ (show fB z + 6 < N by omega)]
        · replace hf := (if_neg c16).symm.trans hf
          cases hf
          exact zthr_s hx hb hst hQ hnh hlocks hown hts zk_t3_46 zk_t1_12 hX (is := 69) (text := "there are 8 fields") (by decide +kernel) (hl.1.trans hml.symm) hH hbg ⟨by decide, by decide, by decide, by decide⟩ ⟨by decide, by decide⟩ dX6_field_59 dX6_field_62 dX6_field_63 dX6_field_65 dX6_field_68
    · replace hf := (if_pos c12).symm.trans hf
      cases hf
      exact zthr_a hx hb hst hQ hnh hlocks hown hts zk_t2_158 zk_t1_11 hX (is := 62) (text := "a layer is 0 to 3") (by decide +kernel) (hl.1.trans hml.symm) hH hbg ⟨by decide, by decide, by decide, by decide⟩ ⟨by decide, by decide⟩ dX6_field_28 dX6_field_31 dX6_field_32 dX6_field_34 dX6_field_37
  · replace hf := (if_pos c6).symm.trans hf
    cases hf
    exact zthr_a hx hb hst hQ hnh hlocks hown hts zk_t2_158 zk_t1_11 hX (is := 57) (text := "a colour is 0 to 5") (by decide +kernel) (hl.1.trans hml.symm) hH hbg ⟨by decide, by decide, by decide, by decide⟩ ⟨by decide, by decide⟩ dX6_field_9 dX6_field_12 dX6_field_13 dX6_field_15 dX6_field_18
