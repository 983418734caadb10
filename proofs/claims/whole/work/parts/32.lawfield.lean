section ZLF
variable {p : Program} {l : Launch} {e : Env} {R : Room} {s : State} {m : MethodId} {args : Array Value} {below : List Frame} {meth : Method} {c : Code} {H : Heap} {locs : List Loc} {cells slots : Nat} {Q : State → Prop}
variable {cc : ByteArray} {pc : Nat} {ls : Array Slot} {rest : List Value} {D : va_G} {T : List (ClassId × FieldType)} {cL cD : ClassId} {ad : Nat → Nat} {N k : Nat} {σ : Nat → va_E} {A : Nat → Prop} {H0 : Heap}
theorem zretWg (hx : p.tables.exec = Jvm.exec) (hb : c.code = cc) (hr : meth.sig.returnType = some .int) (hlocks : meth.locks = false) {v : Int32} {ad0 : Nat → Nat} {N0 mc ms : Nat} {P : Int32 → (Nat → Nat) → (Nat → va_E) → Prop} (hQ : Q = MQ below (zQni D ad0 N0 N s.heap.size P) args s mc ms (zFr ad0 N0 s.heap.size)) (hH : zH D ad N (zFr ad0 N0 s.heap.size) s.heap σ H locs) (hp : (∀ i, i < N0 → ad i = ad0 i) ∧ P v ad σ) (hc : cells ≤ mc ∧ slots ≤ ms) (hdg : decode cc pc = .ok (.ireturn, 1)) : W p l e R s m args below meth c H locs cells slots Q (F0 m pc ls [.int v]) := by
  subst hQ
  exact W.widen hc.1 hc.2 (W.iret (v := v) hx hb hr (fun t ht hW => ⟨⟨v, (ad, σ), rfl, hp, by show va_P D vwCl (zl ad N σ) t.heap ∧ va_D _ (zl ad N σ); rw [ht]; exact ⟨hH.1, hH.2.1⟩⟩, hH.2.2.F ht⟩) hH.2.2.2.2 hdg hlocks)
theorem zxVni {y : MethodName} {bytes : ByteArray} {maxL nL n index : Nat} {ret : Option FieldType} {own : String} {rm : Room} {As st0 : List Value} {C : String} {ci : Nat} {q : vw_C} {fs : List Value} {N1 : Nat} {P : Int32 → (Nat → Nat) → (Nat → va_E) → Prop} {tc : Int} {PX : (Nat → va_E) → Prop} {mc1 ms1 : Nat} (hx : p.tables.exec = Jvm.exec) (hb : c.code = cc) (hml : c.maxLocals = nL) (hown : s.vm.findClass own = some m.cls) (hts : ∀ w ∈ wsL_law, w.before args s = true) (hsz : ls.size = nL) (hK : zK D T s) (hH : zH D ad N A H0 σ H locs) (hA : ∀ q, H0.size ≤ q → A q) (hX : zXs A s H)
    (hM : vx_Met l y (Cond.code y bytes maxL ret :: wsL_law) rm (zPreX D ad N T σ H.size (.ref (ad k) :: As)) (zQni D ad N N1 H.size P) (zXC D ad N H.size tc PX) mc1 ms1 (zFr ad N H.size))
    (h1 : Cond.methodLink own index y ∈ wsL_law) (h2 : Cond.instanceMethod y ∈ wsL_law) (h3 : Cond.selects C y y ∈ wsL_law) (h4 : Cond.initialized C ∈ wsL_law) (h5 : Cond.code y bytes maxL ret ∈ wsL_law)
    (hd : y.cls = C ∧ y.cls ≠ "java/lang/invoke/MethodHandle" ∧ y.cls ≠ "java/lang/invoke/VarHandle" ∧ (parseMethodDescriptor y.desc).map (fun d => d.parameters.length) = some n) (hn : As.length = n) (hR : rm.cells = mc1 ∧ rm.slots = ms1 ∧ rm.frames + 1 ≤ R.frames ∧ 8 + (maxL + 11) + rm.locals ≤ R.locals) (hcs : cells + mc1 ≤ R.cells ∧ slots + ms1 ≤ R.slots)
    (hk : k < N) (hσ : σ k = .inr (ci, fs)) (hc : vwCl[ci]? = some q) (hq : q.1 = C) (hst : st0 = As.reverse ++ .ref (ad k) :: rest) (hrest : (rest.map fun v => v.category).sum ≤ 8) (hdg : decode cc pc = .ok (.invokevirtual index, 3))
    (kx : ∀ (E : String) (ce : Cell) (q9 : Addr) (σ' : Nat → va_E) (H1 : Heap) (locs1 : List Loc), PX σ' → zEx E tc → zH D ad N A H0 σ' H1 locs1 → H1[q9]? = some ce → ce.vm = .none → s.vm.findClass E = some ce.cls → vx_W p l e R s m args below meth c H1 locs1 (cells + mc1) (slots + ms1) Q (F0 m pc ls rest) q9)
    (kk : ∀ (r : Int32) (ad1 : Nat → Nat) (σ1 : Nat → va_E) (H1 : Heap) (locs1 : List Loc), (∀ i, i < N → ad1 i = ad i) → P r ad1 σ1 → zH D ad1 N1 A H0 σ1 H1 locs1 → W p l e R s m args below meth c H1 locs1 (cells + mc1) (slots + ms1) Q (F0 m (pc + 3) ls (.int r :: rest))) : W p l e R s m args below meth c H locs cells slots Q (F0 m pc ls st0) := by
  subst hst
  have hFc : ∀ q, zFr ad N H.size q → A q := fun q h => h.elim (fun ⟨k, hk, e⟩ => e ▸ hH.2.1.2 k _ (zl_at hk)) (fun h => hA q (Nat.le_trans hH.2.2.1 h))
  have cw : CallW R s args own C index y bytes maxL ret (Cond.code y bytes maxL ret :: wsL_law) rm mc1 ms1 n := cwV n hts (zk_in _ (fun w hw => by
    simp only [wsV, List.cons_append, List.nil_append, List.mem_cons] at hw
    rcases hw with rfl | rfl | rfl | rfl | rfl | hw <;> assumption)) rfl hR.1 hR.2.1 hd hR.2.2
  refine vx_calli (vx_runV (C := C) (As := As) (rest := rest) ⟨hx, hb, hml, hown, hts⟩ hM cw ⟨zPreX_blind, hq ▸ va_recv hK.1 hH.1 hc (zl_atE hk hσ), fun U hU hW => ⟨rfl, by rw [hU], by rw [hU]; exact hH.1, hK.warm hW, by rw [hU]; exact (hX.narrow hFc).warm hW⟩⟩ rfl hn hsz rfl (lv_room hrest) hdg hcs) hH.2.2 (fun q _ h => hFc q h) hFc (fun q _ h => hFc q h) (fun E ce q9 u t H1 locs1 ht hvm hw hB hz1 hk1 hS hce hcv hcl => ?_) (fun r u t H1 locs1 ht hvm hw hB hz1 hk1 hS => ?_)
  · rw [ht] at hB
    exact kx E ce q9 u H1 locs1 hw hB.1 ⟨hB.2, zl_D hH.2.1, hS⟩ hce hcv hcl
  · rw [ht] at hB
    exact kk r u.1 u.2 H1 locs1 hw.1 hw.2 ⟨hB.1, hB.2.weaken (fun _ _ _ h => hFc _ h), hS⟩
theorem zcHn {y : MethodName} {bytes : ByteArray} {maxL nL n index : Nat} {ret : Option FieldType} {hh : List (Nat × Nat × Nat × Nat)} {own : String} {rm : Room} {As st0 : List Value} {mc1 ms1 : Nat} {N1 : Nat} {P : Int32 → (Nat → Nat) → (Nat → va_E) → Prop} (hx : p.tables.exec = Jvm.exec) (hb : c.code = cc) (hml : c.maxLocals = nL) (hown : s.vm.findClass own = some m.cls) (hts : ∀ w ∈ wsL_law, w.before args s = true) (hsz : ls.size = nL) (hK : zK D T s) (hH : zH D ad N A H0 σ H locs) (hA : ∀ q, H0.size ≤ q → A q) (hX : zXs A s H) (hNc : zNc s)
    (hM : Met l y (Cond.codeWith y bytes maxL ret hh :: wsL_law) rm (zPreH D ad N T σ H.size As) (zQni D ad N N1 H.size P) mc1 ms1 (zFr ad N H.size))
    (h1 : Cond.methodLink own index y ∈ wsL_law) (h2 : Cond.static y ∈ wsL_law) (h4 : Cond.initialized y.cls ∈ wsL_law) (h5 : Cond.codeWith y bytes maxL ret hh ∈ wsL_law)
    (hd : y.cls ≠ "java/lang/invoke/MethodHandle" ∧ y.cls ≠ "java/lang/invoke/VarHandle" ∧ (parseMethodDescriptor y.desc).map (fun d => d.parameters.length) = some n) (hn : As.length = n) (hR : rm.cells = mc1 ∧ rm.slots = ms1 ∧ rm.frames + 1 ≤ R.frames ∧ 8 + (maxL + 11) + rm.locals ≤ R.locals) (hcs : cells + mc1 ≤ R.cells ∧ slots + ms1 ≤ R.slots)
    (hst : st0 = As.reverse ++ rest) (hrest : (rest.map fun v => v.category).sum ≤ 8) (hdg : decode cc pc = .ok (.invokestatic index, 3))
    (kk : ∀ (r : Int32) (ad1 : Nat → Nat) (σ1 : Nat → va_E) (H1 : Heap) (locs1 : List Loc), (∀ i, i < N → ad1 i = ad i) → P r ad1 σ1 → zH D ad1 N1 A H0 σ1 H1 locs1 → W p l e R s m args below meth c H1 locs1 (cells + mc1) (slots + ms1) Q (F0 m (pc + 3) ls (.int r :: rest))) : W p l e R s m args below meth c H locs cells slots Q (F0 m pc ls st0) := by
  subst hst
  have hFc : ∀ q, zFr ad N H.size q → A q := fun q h => h.elim (fun ⟨k, hk, e⟩ => e ▸ hH.2.1.2 k _ (zl_at hk)) (fun h => hA q (Nat.le_trans hH.2.2.1 h))
  have cw : vx_CSW R s args own index y bytes maxL ret hh (Cond.codeWith y bytes maxL ret hh :: wsL_law) rm mc1 ms1 n := vx_cwSW n hts (zk_in _ (fun w hw => by
    simp only [va_wsS, List.cons_append, List.nil_append, List.mem_cons] at hw
    rcases hw with rfl | rfl | rfl | rfl | hw <;> assumption)) rfl hR.1 hR.2.1 hd hR.2.2
  refine va_calli (vx_runSW (As := As) (rest := rest) ⟨hx, hb, hml, hown, hts⟩ hM cw ⟨zPreH_blind, fun U hU hW => ⟨rfl, by rw [hU], by rw [hU]; exact hH.1, hK.warm hW, by rw [hU]; exact (hX.narrow hFc).warm hW, hNc.warm hW⟩⟩ rfl hn hsz rfl (lv_room hrest) hdg hcs) hH.2.2 (fun q _ h => hFc q h) hFc (fun r u t H1 locs1 ht hvm hw hB hz1 hk1 hS => ?_)
  rw [ht] at hB
  exact kk r u.1 u.2 H1 locs1 hw.1 hw.2 ⟨hB.1, hB.2.weaken (fun _ _ _ h => hFc _ h), hS⟩
end ZLF

def f_L_field (sp_fieldCount : Int) (sp_planned : Int) (F_fd_colour : Int → Int) (F_fd_layer : Int → Int) (F_fd_column : Int → Int) (F_fd_cornerXs : Int → Int → Int) (F_fd_cornerYs : Int → Int → Int) (F_fd_crossings : Int → Int → Int) (F_fd_cornerCount : Int → Int) (F_fd_crossingCount : Int → Int) (F_fd_density : Int → Int) (F_fd_length : Int → Int) (F_fd_shift : Int → Int) (F_fd_pull : Int → Int) (F_fd_underlay : Int → Int) (F_fd_drawn : Int → Int) (F_pt_xs : Int → Int → Int) (F_pt_ys : Int → Int → Int) (F_pt_size : Int → Int) (nF : Int) (p1 : Int) (p2 : Int) (p3 : Int) (lw_out : Int) : Option (Int × Int × Int × (Int → Int) × (Int → Int) × (Int → Int) × (Int → Int → Int) × (Int → Int → Int) × (Int → Int → Int) × (Int → Int) × (Int → Int) × (Int → Int) × (Int → Int) × (Int → Int) × (Int → Int) × (Int → Int) × (Int → Int) × (Int → Int → Int) × (Int → Int → Int) × (Int → Int) × Int × Int) :=
  zb5 (f_X6_field sp_fieldCount sp_planned nF p1 p2 p3) fun t r u0 u1 u2 =>
  if ¬ t = 0 then
    if t = 1 then some (1, sp_fieldCount, sp_planned, F_fd_colour, F_fd_layer, F_fd_column, F_fd_cornerXs, F_fd_cornerYs, F_fd_crossings, F_fd_cornerCount, F_fd_crossingCount, F_fd_density, F_fd_length, F_fd_shift, F_fd_pull, F_fd_underlay, F_fd_drawn, F_pt_xs, F_pt_ys, F_pt_size, nF, lw_out) else if t = 2 then some (2, sp_fieldCount, sp_planned, F_fd_colour, F_fd_layer, F_fd_column, F_fd_cornerXs, F_fd_cornerYs, F_fd_crossings, F_fd_cornerCount, F_fd_crossingCount, F_fd_density, F_fd_length, F_fd_shift, F_fd_pull, F_fd_underlay, F_fd_drawn, F_pt_xs, F_pt_ys, F_pt_size, nF, lw_out) else none
  else
    some (0, u0, u1, (zup F_fd_colour nF p1), (zup F_fd_layer nF p2), (zup F_fd_column nF p3), (zup F_fd_cornerXs nF (fun _ => 0)), (zup F_fd_cornerYs nF (fun _ => 0)), (zup F_fd_crossings nF (fun _ => 0)), (zup F_fd_cornerCount nF 0), (zup F_fd_crossingCount nF 0), (zup F_fd_density nF 2), (zup F_fd_length nF 6), (zup F_fd_shift nF 0), (zup F_fd_pull nF 0), (zup F_fd_underlay nF 0), (zup F_fd_drawn nF 0), (zup F_pt_xs nF (fun _ => 0)), (zup F_pt_ys nF (fun _ => 0)), (zup F_pt_size nF 0), u2, r)

abbrev rmL_field : Room := { frames := 7, cells := 7, slots := 4198, locals := 116 }
theorem hd_L_field : yL_field.cls ≠ "java/lang/invoke/MethodHandle" ∧ yL_field.cls ≠ "java/lang/invoke/VarHandle" ∧ (parseMethodDescriptor yL_field.desc).map (fun d => d.parameters.length) = some 5 := by decide +kernel

set_option maxHeartbeats 4000000 in
set_option maxRecDepth 100000 in
theorem c_L_field {l : Launch} {D : va_G} {cI cZ cF cL cD : ClassId} {ad : Nat → Nat} {N : Nat} (hI : ∀ i j, i < N → j < N → ad i = ad j → i = j) (hN : 46 ≤ N) {nF : Int} (hNF : N = 46 + 7 * nF.toNat) (h0 : 0 ≤ nF) (hst : l.stackTraces = false) {σ0 : Nat → va_E} {sz : Nat} {sp_fieldCount sp_trimBound sp_planned : Int} {F_fd_colour : Int → Int} {F_fd_layer : Int → Int} {F_fd_column : Int → Int} {F_fd_cornerXs : Int → Int → Int} {F_fd_cornerYs : Int → Int → Int} {F_fd_crossings : Int → Int → Int} {F_fd_cornerCount : Int → Int} {F_fd_crossingCount : Int → Int} {F_fd_density : Int → Int} {F_fd_length : Int → Int} {F_fd_shift : Int → Int} {F_fd_pull : Int → Int} {F_fd_underlay : Int → Int} {F_fd_drawn : Int → Int} {F_pt_xs : Int → Int → Int} {F_pt_ys : Int → Int → Int} {F_pt_size : Int → Int} {p1 p2 p3 lw_out R0 R_sp_fieldCount R_sp_planned : Int} {R_F_fd_colour : Int → Int} {R_F_fd_layer : Int → Int} {R_F_fd_column : Int → Int} {R_F_fd_cornerXs : Int → Int → Int} {R_F_fd_cornerYs : Int → Int → Int} {R_F_fd_crossings : Int → Int → Int} {R_F_fd_cornerCount : Int → Int} {R_F_fd_crossingCount : Int → Int} {R_F_fd_density : Int → Int} {R_F_fd_length : Int → Int} {R_F_fd_shift : Int → Int} {R_F_fd_pull : Int → Int} {R_F_fd_underlay : Int → Int} {R_F_fd_drawn : Int → Int} {R_F_pt_xs : Int → Int → Int} {R_F_pt_ys : Int → Int → Int} {R_F_pt_size : Int → Int} {R_nF R_lw_out : Int} (h_sp : σ0 0 = oC_sp ad sp_fieldCount sp_trimBound sp_planned) (h_sp_fields : σ0 1 = .inl (cF, 8, .inr (.inr (.inr (.inr (zFA ad nF)))))) (h_FF : zFF ad cI nF σ0 F_fd_colour F_fd_layer F_fd_column F_fd_cornerXs F_fd_cornerYs F_fd_crossings F_fd_cornerCount F_fd_crossingCount F_fd_density F_fd_length F_fd_shift F_fd_pull F_fd_underlay F_fd_drawn F_pt_xs F_pt_ys F_pt_size) (h_out : zO cL σ0 lw_out) (hp3 : p3 = 0 ∨ p3 = 1) (hf : f_L_field sp_fieldCount sp_planned F_fd_colour F_fd_layer F_fd_column F_fd_cornerXs F_fd_cornerYs F_fd_crossings F_fd_cornerCount F_fd_crossingCount F_fd_density F_fd_length F_fd_shift F_fd_pull F_fd_underlay F_fd_drawn F_pt_xs F_pt_ys F_pt_size nF p1 p2 p3 lw_out = some (R0, R_sp_fieldCount, R_sp_planned, R_F_fd_colour, R_F_fd_layer, R_F_fd_column, R_F_fd_cornerXs, R_F_fd_cornerYs, R_F_fd_crossings, R_F_fd_cornerCount, R_F_fd_crossingCount, R_F_fd_density, R_F_fd_length, R_F_fd_shift, R_F_fd_pull, R_F_fd_underlay, R_F_fd_drawn, R_F_pt_xs, R_F_pt_ys, R_F_pt_size, R_nF, R_lw_out)) :
    Met l yL_field (Cond.codeWith yL_field cL_field 6 (some .int) [(0, 12, 15, 13), (0, 12, 19, 15)] :: wsL_law) rmL_field (zPreH D ad N (zT cI cZ cF cL cD) σ0 sz [.ref (ad 0), .int (zI p1), .int (zI p2), .int (zI p3), .ref (ad 44)]) (zQni D ad N (46 + 7 * R_nF.toNat) sz (fun r ad' σ' => r = zI R0 ∧ (0 ≤ R_nF ∧ N ≤ 46 + 7 * R_nF.toNat) ∧ σ' 0 = oC_sp ad' R_sp_fieldCount sp_trimBound R_sp_planned ∧ σ' 1 = .inl (cF, 8, .inr (.inr (.inr (.inr (zFA ad' R_nF))))) ∧ zFF ad' cI R_nF σ' R_F_fd_colour R_F_fd_layer R_F_fd_column R_F_fd_cornerXs R_F_fd_cornerYs R_F_fd_crossings R_F_fd_cornerCount R_F_fd_crossingCount R_F_fd_density R_F_fd_length R_F_fd_shift R_F_fd_pull R_F_fd_underlay R_F_fd_drawn R_F_pt_xs R_F_pt_ys R_F_pt_size ∧ zO cL σ' R_lw_out ∧ ∀ i : Nat, i < 46 → i ≠ 0 → i ≠ 1 → i ≠ 44 → σ' i = σ0 i)) 7 4198 (zFr ad N sz) := by
  refine zMetH hI (by decide) (Nat.le_of_ble_eq_true rfl) ?_
  intro p e s m args below meth c Q hx hb hr hlocks hml hown hts htab hK hX hNc hsz hQ hH hA ls hl
  subst hsz
  have hl : lv_has ls 6 [(0, .ref (ad 0)), (1, .int (zI p1)), (2, .int (zI p2)), (3, .int (zI p3)), (4, .ref (ad 44))] := hl
  have hk_sp : 0 < N := by omega
  unfold f_L_field at hf
  refine lv_aload hx hb dL_field_0 (lv_at hl 4 rfl) ?_
  refine lv_iconst (v := zI 0) hx hb dL_field_2 (by decide +kernel) ?_
  refine lv_aload_n hx hb dL_field_3 rfl (lv_at hl 0 rfl) ?_
  refine lv_iload_n hx hb dL_field_4 rfl (lv_at hl 1 rfl) ?_
  refine lv_iload_n hx hb dL_field_5 rfl (lv_at hl 2 rfl) ?_
  refine lv_iload_n hx hb dL_field_6 rfl (lv_at hl 3 rfl) ?_
  obtain ⟨t, r, u0, u1, u2, k1, hf⟩ := zb5_some hf
  refine zxVni (C := RX6) (As := [.int (zI p1), .int (zI p2), .int (zI p3)]) (rest := [.int (zI 0), .ref (ad 44)]) hx hb hml hown hts hl.1 hK hH hA (hX.kept hH.2.2.2.1) (c_X6_field hI hN hNF hst h_sp h_sp_fields h_FF hp3 k1) zk_t2_125 zk_t2_126 zk_t2_127 zk_t1_1 zk_t2_128 hd_X6_field rfl ⟨rfl, rfl, Nat.le_of_ble_eq_true rfl, Nat.le_of_ble_eq_true rfl⟩ ⟨by decide, by decide⟩ hk_sp h_sp rfl rfl rfl (Nat.le_of_ble_eq_true rfl) dL_field_7 (fun E ce q9 σ1 H1 l1 hp hE hH hce hcv hcl => ?_) (fun q1 ad1 σ1 H1 l1 hba hp hH => ?_)
  · replace hf := (if_pos (zEx_ne hE)).symm.trans hf
    rw [hp] at hH
    have hE0 := hE
    rcases hE0 with ⟨rfl, ht⟩ | ⟨rfl, ht⟩ | ⟨rfl, ht⟩
    · subst ht
      refine vx_catch hown [] ⟨0, 12, 15, 13⟩ [⟨0, 12, 19, 15⟩] htab (fun z hz => nomatch hz) (by decide) (by decide) (hts _ zk_t2_123) (zcast hX zcb_1) hce hcv hcl ?_
      refine lv_astore (lv' := [(5, .ref q9), (0, .ref (ad 0)), (1, .int (zI p1)), (2, .int (zI p2)), (3, .int (zI p3)), (4, .ref (ad 44))]) hx hb dL_field_15 hl (by decide) rfl (fun ls hl => ?_)
      refine lv_iconst (v := zI 1) hx hb dL_field_17 (by decide +kernel) ?_
      cases hf
      rw [← hNF] at hQ
      exact zretWg hx hb hr hlocks hQ hH ⟨fun _ _ => rfl, rfl, ⟨h0, Nat.le_refl _⟩, h_sp, h_sp_fields, h_FF, h_out, fun _ _ _ _ _ => rfl⟩ ⟨by decide, by decide⟩ dL_field_18
    · subst ht
      refine vx_catch hown [⟨0, 12, 15, 13⟩] ⟨0, 12, 19, 15⟩ [] htab (fun z hz => by
          rcases List.mem_cons.mp hz with rfl | hz
          · exact Or.inr ⟨by decide, _, hts _ zk_t2_123, hNc _ (List.mem_of_getElem? (i := 2) rfl)⟩
          · exact nomatch hz) (by decide) (by decide) (hts _ zk_t2_124) (zcast hX zcb_2) hce hcv hcl ?_
      refine lv_astore (lv' := [(5, .ref q9), (0, .ref (ad 0)), (1, .int (zI p1)), (2, .int (zI p2)), (3, .int (zI p3)), (4, .ref (ad 44))]) hx hb dL_field_19 hl (by decide) rfl (fun ls hl => ?_)
      refine lv_iconst (v := zI 2) hx hb dL_field_21 (by decide +kernel) ?_
      cases hf
      rw [← hNF] at hQ
      exact zretWg hx hb hr hlocks hQ hH ⟨fun _ _ => rfl, rfl, ⟨h0, Nat.le_refl _⟩, h_sp, h_sp_fields, h_FF, h_out, fun _ _ _ _ _ => rfl⟩ ⟨by decide, by decide⟩ dL_field_22
    · exact absurd hf (by subst ht; simp)
  obtain ⟨ht0, hr1, hnF, h_sp, h_sp_fields, h_FF, hn⟩ := hp
  replace hf := (if_neg (fun z => z ht0)).symm.trans hf
  subst hr1
  have h_out := zO_keep h_out (hn 44 (by decide) (by decide) (by decide))
  rw [← hba 44 (by omega)]
  refine lv_i2l hx hb dL_field_10 rfl ?_
  refine zlast hx hb hK hH (show 44 < N + 7 by omega) h_out rfl dL_field_11 (fun σ2 H2 l2 h_out hn2 hH => ?_)
  have h_sp := (hn2 0 (by decide)).trans h_sp
  have h_sp_fields := (hn2 1 (by decide)).trans h_sp_fields
  have h_FF := zFF_keep (fun i hi => hn2 i (by omega)) h_FF
  refine lv_goto (tgt := 23) hx hb dL_field_12 (by decide) ?_
  refine lv_iconst (v := zI 0) hx hb dL_field_23 (by decide +kernel) ?_
  cases hf
  have hN' : 46 + 7 * R_nF.toNat = N + 7 := by omega
  rw [hN'] at hQ
  exact zretWg hx hb hr hlocks hQ hH ⟨hba, rfl, ⟨by omega, by omega⟩, h_sp, h_sp_fields, h_FF, h_out, fun i h46 a0 a1 ab => (hn2 i ab).trans (hn i h46 a0 a1)⟩ ⟨by decide, by decide⟩ dL_field_24

def f_law_field2 (mo_fields : Int) (mo_colour : Int → Int) (mo_layer : Int → Int) (mo_isColumn : Int → Int) (mo_density : Int → Int) (mo_longest : Int → Int) (mo_isKnown : Int) (mo_thrown : Int) (lw_out : Int) (w1 : Int) (w2 : Int) (w3 : Int) (r0 : Int) : Option (Int × (Int → Int) × (Int → Int) × (Int → Int) × (Int → Int) × (Int → Int) × Int × Int) :=
  zb9 (f_X7_field mo_fields mo_colour mo_layer mo_isColumn mo_density mo_longest mo_isKnown mo_thrown w1 w2 (if w3 = 0 then 0 else 1)) fun r1 u2 a3 a4 a5 a6 a7 u8 u9 =>
  zb1 (f_X7_thrown u9) fun r13 =>
  zck (zR r13 ∧ zR r0) <|
  if r13 = r0 then
    zck (zR r0) <|
    if r0 = 0 then
      zck (zR lw_out ∧ zR r1) <|
      if lw_out = r1 then
        some (u2, a3, a4, a5, a6, a7, u8, u9)
      else
        none
    else
      some (u2, a3, a4, a5, a6, a7, u8, u9)
  else
    none
set_option maxHeartbeats 4000000 in
set_option maxRecDepth 100000 in
theorem w_law_field2 {p : Program} {l : Launch} {e : Env} {s : State} {m : MethodId} {args : Array Value} {below : List Frame} {meth : Method} {c : Code} {Q : State → Prop} {D : va_G} {cI cZ cF cL cD : ClassId} {b L : Nat} {xs : Nat → Int32} {A : Nat → Prop} (hx : p.tables.exec = Jvm.exec) (hb : c.code = code) (hml : c.maxLocals = 10) (hown : s.vm.findClass RL = some m.cls) (hts : ∀ w ∈ wsL_law, w.before args s = true) (hst : l.stackTraces = false) (hNc : zNc s) (hX0 : va_X b L xs s s.heap) (hbl : b < s.heap.size) (hbA : ¬ A b) (hA : ∀ q, s.heap.size ≤ q → A q) (hK : zK D (zT cI cZ cF cL cD) s) (hXs : zXs A s s.heap) (hL : L ≤ 3584)
    {ad : Nat → Nat} {N : Nat} {nF : Int} (hN : 46 ≤ N) (hNF : N = 46 + 7 * nF.toNat) {σ0 : Nat → va_E} {H : Heap} {locs : List Loc} {cells slots : Nat} (hH : zH D ad N A s.heap σ0 H locs) {mo_fields : Int} {mo_colour : Int → Int} {mo_layer : Int → Int} {mo_isColumn : Int → Int} {mo_density : Int → Int} {mo_longest : Int → Int} {mo_bound : Int} {mo_points : Int} {mo_crossings : Int} {mo_isKnown : Int} {mo_commands : Int} {mo_needleX : Int} {mo_needleY : Int} {mo_hasFile : Int} {mo_format : Int} {mo_length : Int} {mo_heads : Int} {mo_late : Int} {mo_ran : Int} {mo_program : Int} {mo_thrown : Int} {mo_rowY : Int} {mo_stitches : Int} {lw_out : Int} {R_mo_fields : Int} {R_mo_colour : Int → Int} {R_mo_layer : Int → Int} {R_mo_isColumn : Int → Int} {R_mo_density : Int → Int} {R_mo_longest : Int → Int} {R_mo_isKnown : Int} {R_mo_thrown : Int} (h_mo : σ0 19 = oC_mo ad mo_fields mo_bound mo_points mo_crossings mo_isKnown mo_commands mo_needleX mo_needleY mo_hasFile mo_format mo_length mo_heads mo_late mo_ran mo_program mo_thrown mo_rowY mo_stitches) (h_mo_colour : σ0 20 = .inl (cI, 8, .inl (zA mo_colour))) (h_mo_layer : σ0 21 = .inl (cI, 8, .inl (zA mo_layer))) (h_mo_isColumn : σ0 22 = .inl (cZ, 8, .inl (zA mo_isColumn))) (h_mo_density : σ0 26 = .inl (cI, 8, .inl (zA mo_density))) (h_mo_longest : σ0 27 = .inl (cI, 8, .inl (zA mo_longest))) (h_lw_out : zO cL σ0 lw_out) {r0 : Int} {ii : Int} (hiL : 0 ≤ ii ∧ ii + 7 ≤ L) {w1 : Int} (hw1 : xs (ii.toNat + 1) = zI w1) (hR1 : zR w1) {w2 : Int} (hw2 : xs (ii.toNat + 2) = zI w2) (hR2 : zR w2) {w3 : Int} (hw3 : xs (ii.toNat + 3) = zI w3) (hR3 : zR w3) (hcs : cells + 9 ≤ 83562 ∧ slots + 4300 ≤ 8845420) {ls : Array Slot} (hl : lv_has ls 10 [(0, .ref b), (1, .ref (ad 0)), (2, .ref (ad 19)), (3, .ref (ad 44)), (4, .ref (ad 45)), (5, .int (zI ii))]) (hf : f_law_field2 mo_fields mo_colour mo_layer mo_isColumn mo_density mo_longest mo_isKnown mo_thrown lw_out w1 w2 w3  r0 = some (R_mo_fields, R_mo_colour, R_mo_layer, R_mo_isColumn, R_mo_density, R_mo_longest, R_mo_isKnown, R_mo_thrown))
    (kk : ∀ (σ : Nat → va_E) (H : Heap) (locs : List Loc) (cells1 slots1 : Nat), cells1 ≤ cells + 9 → slots1 ≤ slots + 4300 → zH D ad N A s.heap σ H locs → ∀ (h_mo : σ 19 = oC_mo ad R_mo_fields mo_bound mo_points mo_crossings R_mo_isKnown mo_commands mo_needleX mo_needleY mo_hasFile mo_format mo_length mo_heads mo_late mo_ran mo_program R_mo_thrown mo_rowY mo_stitches) (h_mo_colour : σ 20 = .inl (cI, 8, .inl (zA R_mo_colour))) (h_mo_layer : σ 21 = .inl (cI, 8, .inl (zA R_mo_layer))) (h_mo_isColumn : σ 22 = .inl (cZ, 8, .inl (zA R_mo_isColumn))) (h_mo_density : σ 26 = .inl (cI, 8, .inl (zA R_mo_density))) (h_mo_longest : σ 27 = .inl (cI, 8, .inl (zA R_mo_longest))), ∀ (hbg : ∀ i : Nat, i ≠ 19 → i ≠ 20 → i ≠ 21 → i ≠ 22 → i ≠ 26 → i ≠ 27 → σ i = σ0 i) (ls : Array Slot), lv_has ls 10 [(0, .ref b), (1, .ref (ad 0)), (2, .ref (ad 19)), (3, .ref (ad 44)), (4, .ref (ad 45)), (5, .int (zI ii))] → W p l e room_1 s m args below meth c H locs cells1 slots1 Q (F0 m 1430 ls [])) : W p l e room_1 s m args below meth c H locs cells slots Q (F0 m 183 ls [.int (zI r0)]) := by
  have hI := zD_inj hH.2.1
  have g_c : cells ≤ 83562 := by omega
  have g_s : slots ≤ 8845420 := by omega
  have hk_out : 44 < N := by omega
  have hk_outD : 45 < N := by omega
  have hk_mo : 19 < N := by omega
  have hk_mo_colour : 20 < N := by omega
  have hk_mo_layer : 21 < N := by omega
  have hk_mo_isColumn : 22 < N := by omega
  have hk_mo_density : 26 < N := by omega
  have hk_mo_longest : 27 < N := by omega
  have hbg : ∀ i : Nat, i ≠ 19 → i ≠ 20 → i ≠ 21 → i ≠ 22 → i ≠ 26 → i ≠ 27 → σ0 i = σ0 i := fun _ _ _ _ _ _ _ => rfl
  unfold f_law_field2 at hf
  refine lv_istore (lv' := [(6, .int (zI r0)), (0, .ref b), (1, .ref (ad 0)), (2, .ref (ad 19)), (3, .ref (ad 44)), (4, .ref (ad 45)), (5, .int (zI ii))]) hx hb dL_law_183 hl (by decide) rfl (fun ls hl => ?_)
  refine lv_aload_n hx hb dL_law_185 rfl (lv_at hl 3 rfl) ?_
  refine lv_aload_n hx hb dL_law_186 rfl (lv_at hl 1 rfl) ?_
  refine lv_iload hx hb dL_law_187 (lv_at hl 6 rfl) ?_
  refine lv_iconst (v := zI 1) hx hb dL_law_189 (by decide +kernel) ?_
  refine lz_iadd hx hb dL_law_190 ?_
  refine lz_sld hx hb hX0 hbl hbA hH.2.2 hiL hL 1 (by decide) hw1 dL_law_191 ?_
  refine lv_aload_n hx hb dL_law_192 rfl (lv_at hl 1 rfl) ?_
  refine lv_iload hx hb dL_law_193 (lv_at hl 6 rfl) ?_
  refine lv_iconst (v := zI 2) hx hb dL_law_195 (by decide +kernel) ?_
  refine lz_iadd hx hb dL_law_196 ?_
  refine lz_sld hx hb hX0 hbl hbA hH.2.2 hiL hL 2 (by decide) hw2 dL_law_197 ?_
  refine lv_aload_n hx hb dL_law_198 rfl (lv_at hl 1 rfl) ?_
  refine lv_iload hx hb dL_law_199 (lv_at hl 6 rfl) ?_
  refine lv_iconst (v := zI 3) hx hb dL_law_201 (by decide +kernel) ?_
  refine lz_iadd hx hb dL_law_202 ?_
  refine lz_sld hx hb hX0 hbl hbA hH.2.2 hiL hL 3 (by decide) hw3 dL_law_203 ?_
  refine lz_tern hx hb hR3 dL_law_204 dL_law_207 dL_law_208 dL_law_211 ?_
  obtain ⟨r1, u2, a3, a4, a5, a6, a7, u8, u9, k10, hf⟩ := zb9_some hf
  refine zcVi (C := RX7) (As := [.int (zI w1), .int (zI w2), .int (zI (if w3 = 0 then 0 else 1))]) (rest := []) hx hb hml hown hts hl.1 hK hH hA (c_X7_field hI hN  h_mo h_mo_colour h_mo_layer h_mo_isColumn h_mo_density h_mo_longest k10) zk_t5_4 zk_t5_5 zk_t5_6 zk_t1_6 zk_t5_7 hd_X7_field rfl ⟨rfl, rfl, Nat.le_of_ble_eq_true rfl, Nat.le_of_ble_eq_true rfl⟩ ⟨g_c, g_s⟩ hk_mo h_mo rfl rfl rfl (Nat.le_of_ble_eq_true rfl) dL_law_212 (fun q12 σ11 Hσ11 lσ11 hp hH => ?_)
  obtain ⟨hr1, h_mo, h_mo_colour, h_mo_layer, h_mo_isColumn, h_mo_density, h_mo_longest, hn⟩ := hp
  replace hr1 := hr1.symm; subst hr1
  have hbg : ∀ i : Nat, i ≠ 19 → i ≠ 20 → i ≠ 21 → i ≠ 22 → i ≠ 26 → i ≠ 27 → σ11 i = σ0 i := fun i a0 a1 a2 a3 a4 a5 => (hn i a0 a1 a2 a3 a4 a5).trans (hbg i a0 a1 a2 a3 a4 a5)
  have h_lw_out := zO_keep h_lw_out (hn 44 (by decide) (by decide) (by decide) (by decide) (by decide) (by decide))
  refine lv_istore (lv' := [(7, .int (zI r1)), (6, .int (zI r0)), (0, .ref b), (1, .ref (ad 0)), (2, .ref (ad 19)), (3, .ref (ad 44)), (4, .ref (ad 45)), (5, .int (zI ii))]) hx hb dL_law_215 hl (by decide) rfl (fun ls hl => ?_)
  refine lv_aload_n hx hb dL_law_217 rfl (lv_at hl 4 rfl) ?_
  obtain ⟨r13, k14, hf⟩ := zb1_some hf
  refine zcVi (C := RX7) (As := []) (rest := []) hx hb hml hown hts hl.1 hK hH hA (c_X7_thrown hI hN  h_mo k14) zk_t5_0 zk_t5_1 zk_t5_2 zk_t1_6 zk_t5_3 hd_X7_thrown rfl ⟨rfl, rfl, Nat.le_of_ble_eq_true rfl, Nat.le_of_ble_eq_true rfl⟩ ⟨g_c, g_s⟩ hk_mo h_mo rfl rfl rfl (Nat.le_of_ble_eq_true rfl) dL_law_218 (fun q16 σ15 Hσ15 lσ15 hp hH => ?_)
  obtain ⟨hr1, hs1⟩ := hp; replace hr1 := hr1.symm; subst hr1; rw [hs1] at hH
  refine lv_iload hx hb dL_law_221 (lv_at hl 1 rfl) ?_
  obtain ⟨k17, hf⟩ := zck_some hf
  refine lz_icmp_eq (tgt := 228) hx hb k17 dL_law_223 (by decide) (fun c18 => ?_) (fun c18 => ?_)
  · replace hf := (if_pos c18).symm.trans hf
    refine lv_iload hx hb dL_law_228 (lv_at hl 1 rfl) ?_
    obtain ⟨k19, hf⟩ := zck_some hf
    refine lz_if_ne (tgt := 245) hx hb k19 dL_law_230 (by decide) (fun c20 => ?_) (fun c20 => ?_)
    · replace hf := (if_neg c20).symm.trans hf
      refine lv_goto (tgt := 1430) hx hb dL_law_245 (by decide) ?_
      cases hf
      exact kk _ _ _ _ _ (by omega) (by omega) hH h_mo h_mo_colour h_mo_layer h_mo_isColumn h_mo_density h_mo_longest hbg _ (lv_sub hl [2, 3, 4, 5, 6, 7] rfl)
    · replace hf := (if_pos c20).symm.trans hf
      refine lv_aload_n hx hb dL_law_233 rfl (lv_at hl 5 rfl) ?_
      refine lv_iconst (v := zI 0) hx hb dL_law_234 (by decide +kernel) ?_
      refine zlald hx hb hK hH hk_out h_lw_out rfl dL_law_235 ?_
      refine lv_iload hx hb dL_law_236 (lv_at hl 0 rfl) ?_
      refine lv_i2l hx hb dL_law_238 rfl ?_
      obtain ⟨k21, hf⟩ := zck_some hf
      refine lz_lcmpeq (tgt := 245) hx hb k21 dL_law_239 dL_law_240 (by decide) (fun c22 => ?_) (fun c22 => ?_)
      · replace hf := (if_pos c22).symm.trans hf
        refine lv_goto (tgt := 1430) hx hb dL_law_245 (by decide) ?_
        cases hf
        exact kk _ _ _ _ _ (by omega) (by omega) hH h_mo h_mo_colour h_mo_layer h_mo_isColumn h_mo_density h_mo_longest hbg _ (lv_sub hl [2, 3, 4, 5, 6, 7] rfl)
      · replace hf := (if_neg c22).symm.trans hf
        refine lv_iconst (v := zI 0) hx hb dL_law_243 (by decide +kernel) ?_
        cases hf
  · replace hf := (if_neg c18).symm.trans hf
    refine lv_iconst (v := zI 0) hx hb dL_law_226 (by decide +kernel) ?_
    cases hf

theorem oC_mo_e {ad ad1 : Nat → Nat} (h : ∀ i, i < 46 → ad1 i = ad i) {a0 a1 a2 a3 a4 a5 a6 a7 a8 a9 a10 a11 a12 a13 a14 a15 a16 a17 : Int} : oC_mo ad1 a0 a1 a2 a3 a4 a5 a6 a7 a8 a9 a10 a11 a12 a13 a14 a15 a16 a17 = oC_mo ad a0 a1 a2 a3 a4 a5 a6 a7 a8 a9 a10 a11 a12 a13 a14 a15 a16 a17 := by
  simp only [oC_mo, h 20 (by decide), h 21 (by decide), h 22 (by decide), h 23 (by decide), h 24 (by decide), h 25 (by decide), h 26 (by decide), h 27 (by decide), h 28 (by decide), h 29 (by decide), h 30 (by decide), h 31 (by decide), h 32 (by decide), h 33 (by decide), h 34 (by decide), h 35 (by decide), h 36 (by decide), h 37 (by decide), h 38 (by decide), h 39 (by decide), h 40 (by decide), h 41 (by decide), h 42 (by decide), h 43 (by decide)]
def f_law_field (sp_fieldCount : Int) (sp_planned : Int) (F_fd_colour : Int → Int) (F_fd_layer : Int → Int) (F_fd_column : Int → Int) (F_fd_cornerXs : Int → Int → Int) (F_fd_cornerYs : Int → Int → Int) (F_fd_crossings : Int → Int → Int) (F_fd_cornerCount : Int → Int) (F_fd_crossingCount : Int → Int) (F_fd_density : Int → Int) (F_fd_length : Int → Int) (F_fd_shift : Int → Int) (F_fd_pull : Int → Int) (F_fd_underlay : Int → Int) (F_fd_drawn : Int → Int) (F_pt_xs : Int → Int → Int) (F_pt_ys : Int → Int → Int) (F_pt_size : Int → Int) (nF : Int) (mo_fields : Int) (mo_colour : Int → Int) (mo_layer : Int → Int) (mo_isColumn : Int → Int) (mo_density : Int → Int) (mo_longest : Int → Int) (mo_isKnown : Int) (mo_thrown : Int) (lw_out : Int) (w1 : Int) (w2 : Int) (w3 : Int) : Option (Int × Int × (Int → Int) × (Int → Int) × (Int → Int) × (Int → Int → Int) × (Int → Int → Int) × (Int → Int → Int) × (Int → Int) × (Int → Int) × (Int → Int) × (Int → Int) × (Int → Int) × (Int → Int) × (Int → Int) × (Int → Int) × (Int → Int → Int) × (Int → Int → Int) × (Int → Int) × Int × Int × (Int → Int) × (Int → Int) × (Int → Int) × (Int → Int) × (Int → Int) × Int × Int × Int) :=
  zb22 (f_L_field sp_fieldCount sp_planned F_fd_colour F_fd_layer F_fd_column F_fd_cornerXs F_fd_cornerYs F_fd_crossings F_fd_cornerCount F_fd_crossingCount F_fd_density F_fd_length F_fd_shift F_fd_pull F_fd_underlay F_fd_drawn F_pt_xs F_pt_ys F_pt_size nF w1 w2 (if w3 = 0 then 0 else 1) lw_out) fun r0 R_sp_fieldCount R_sp_planned R_F_fd_colour R_F_fd_layer R_F_fd_column R_F_fd_cornerXs R_F_fd_cornerYs R_F_fd_crossings R_F_fd_cornerCount R_F_fd_crossingCount R_F_fd_density R_F_fd_length R_F_fd_shift R_F_fd_pull R_F_fd_underlay R_F_fd_drawn R_F_pt_xs R_F_pt_ys R_F_pt_size R_nF R_lw_out =>
  zb8 (f_law_field2 mo_fields mo_colour mo_layer mo_isColumn mo_density mo_longest mo_isKnown mo_thrown R_lw_out w1 w2 w3 r0) fun R_mo_fields R_mo_colour R_mo_layer R_mo_isColumn R_mo_density R_mo_longest R_mo_isKnown R_mo_thrown =>
  some (R_sp_fieldCount, R_sp_planned, R_F_fd_colour, R_F_fd_layer, R_F_fd_column, R_F_fd_cornerXs, R_F_fd_cornerYs, R_F_fd_crossings, R_F_fd_cornerCount, R_F_fd_crossingCount, R_F_fd_density, R_F_fd_length, R_F_fd_shift, R_F_fd_pull, R_F_fd_underlay, R_F_fd_drawn, R_F_pt_xs, R_F_pt_ys, R_F_pt_size, R_nF, R_mo_fields, R_mo_colour, R_mo_layer, R_mo_isColumn, R_mo_density, R_mo_longest, R_mo_isKnown, R_mo_thrown, R_lw_out)

set_option maxHeartbeats 4000000 in
set_option maxRecDepth 100000 in
theorem w_law_field {p : Program} {l : Launch} {e : Env} {s : State} {m : MethodId} {args : Array Value} {below : List Frame} {meth : Method} {c : Code} {Q : State → Prop} {D : va_G} {cI cZ cF cL cD : ClassId} {b L : Nat} {xs : Nat → Int32} {A : Nat → Prop} (hx : p.tables.exec = Jvm.exec) (hb : c.code = code) (hml : c.maxLocals = 10) (hown : s.vm.findClass RL = some m.cls) (hts : ∀ w ∈ wsL_law, w.before args s = true) (hst : l.stackTraces = false) (hNc : zNc s) (hX0 : va_X b L xs s s.heap) (hbl : b < s.heap.size) (hbA : ¬ A b) (hA : ∀ q, s.heap.size ≤ q → A q) (hK : zK D (zT cI cZ cF cL cD) s) (hXs : zXs A s s.heap) (hL : L ≤ 3584)
    {ad : Nat → Nat} {N : Nat} {nF : Int} (hN : 46 ≤ N) (hNF : N = 46 + 7 * nF.toNat) (h0 : 0 ≤ nF) {σ0 : Nat → va_E} {H : Heap} {locs : List Loc} {cells slots : Nat} (hH : zH D ad N A s.heap σ0 H locs) {sp_fieldCount sp_trimBound sp_planned : Int} {F_fd_colour : Int → Int} {F_fd_layer : Int → Int} {F_fd_column : Int → Int} {F_fd_cornerXs : Int → Int → Int} {F_fd_cornerYs : Int → Int → Int} {F_fd_crossings : Int → Int → Int} {F_fd_cornerCount : Int → Int} {F_fd_crossingCount : Int → Int} {F_fd_density : Int → Int} {F_fd_length : Int → Int} {F_fd_shift : Int → Int} {F_fd_pull : Int → Int} {F_fd_underlay : Int → Int} {F_fd_drawn : Int → Int} {F_pt_xs : Int → Int → Int} {F_pt_ys : Int → Int → Int} {F_pt_size : Int → Int} {mo_fields : Int} {mo_colour : Int → Int} {mo_layer : Int → Int} {mo_isColumn : Int → Int} {mo_density : Int → Int} {mo_longest : Int → Int} {mo_bound : Int} {mo_points : Int} {mo_crossings : Int} {mo_isKnown : Int} {mo_commands : Int} {mo_needleX : Int} {mo_needleY : Int} {mo_hasFile : Int} {mo_format : Int} {mo_length : Int} {mo_heads : Int} {mo_late : Int} {mo_ran : Int} {mo_program : Int} {mo_thrown : Int} {mo_rowY : Int} {mo_stitches : Int} {lw_out : Int} {R_sp_fieldCount : Int} {R_sp_planned : Int} {R_F_fd_colour : Int → Int} {R_F_fd_layer : Int → Int} {R_F_fd_column : Int → Int} {R_F_fd_cornerXs : Int → Int → Int} {R_F_fd_cornerYs : Int → Int → Int} {R_F_fd_crossings : Int → Int → Int} {R_F_fd_cornerCount : Int → Int} {R_F_fd_crossingCount : Int → Int} {R_F_fd_density : Int → Int} {R_F_fd_length : Int → Int} {R_F_fd_shift : Int → Int} {R_F_fd_pull : Int → Int} {R_F_fd_underlay : Int → Int} {R_F_fd_drawn : Int → Int} {R_F_pt_xs : Int → Int → Int} {R_F_pt_ys : Int → Int → Int} {R_F_pt_size : Int → Int} {R_nF : Int} {R_mo_fields : Int} {R_mo_colour : Int → Int} {R_mo_layer : Int → Int} {R_mo_isColumn : Int → Int} {R_mo_density : Int → Int} {R_mo_longest : Int → Int} {R_mo_isKnown : Int} {R_mo_thrown : Int} {R_lw_out : Int} (h_sp : σ0 0 = oC_sp ad sp_fieldCount sp_trimBound sp_planned) (h_sp_fields : σ0 1 = .inl (cF, 8, .inr (.inr (.inr (.inr (zFA ad nF)))))) (h_FF : zFF ad cI nF σ0 F_fd_colour F_fd_layer F_fd_column F_fd_cornerXs F_fd_cornerYs F_fd_crossings F_fd_cornerCount F_fd_crossingCount F_fd_density F_fd_length F_fd_shift F_fd_pull F_fd_underlay F_fd_drawn F_pt_xs F_pt_ys F_pt_size) (h_mo : σ0 19 = oC_mo ad mo_fields mo_bound mo_points mo_crossings mo_isKnown mo_commands mo_needleX mo_needleY mo_hasFile mo_format mo_length mo_heads mo_late mo_ran mo_program mo_thrown mo_rowY mo_stitches) (h_mo_colour : σ0 20 = .inl (cI, 8, .inl (zA mo_colour))) (h_mo_layer : σ0 21 = .inl (cI, 8, .inl (zA mo_layer))) (h_mo_isColumn : σ0 22 = .inl (cZ, 8, .inl (zA mo_isColumn))) (h_mo_density : σ0 26 = .inl (cI, 8, .inl (zA mo_density))) (h_mo_longest : σ0 27 = .inl (cI, 8, .inl (zA mo_longest))) (h_lw_out : zO cL σ0 lw_out) {ii : Int} (hiL : 0 ≤ ii ∧ ii + 7 ≤ L) {w1 : Int} (hw1 : xs (ii.toNat + 1) = zI w1) (hR1 : zR w1) {w2 : Int} (hw2 : xs (ii.toNat + 2) = zI w2) (hR2 : zR w2) {w3 : Int} (hw3 : xs (ii.toNat + 3) = zI w3) (hR3 : zR w3) (hcs : cells + 16 ≤ 83562 ∧ slots + 8500 ≤ 8845420) {ls : Array Slot} (hl : lv_has ls 10 [(0, .ref b), (1, .ref (ad 0)), (2, .ref (ad 19)), (3, .ref (ad 44)), (4, .ref (ad 45)), (5, .int (zI ii))]) (hf : f_law_field sp_fieldCount sp_planned F_fd_colour F_fd_layer F_fd_column F_fd_cornerXs F_fd_cornerYs F_fd_crossings F_fd_cornerCount F_fd_crossingCount F_fd_density F_fd_length F_fd_shift F_fd_pull F_fd_underlay F_fd_drawn F_pt_xs F_pt_ys F_pt_size nF mo_fields mo_colour mo_layer mo_isColumn mo_density mo_longest mo_isKnown mo_thrown lw_out w1 w2 w3 = some (R_sp_fieldCount, R_sp_planned, R_F_fd_colour, R_F_fd_layer, R_F_fd_column, R_F_fd_cornerXs, R_F_fd_cornerYs, R_F_fd_crossings, R_F_fd_cornerCount, R_F_fd_crossingCount, R_F_fd_density, R_F_fd_length, R_F_fd_shift, R_F_fd_pull, R_F_fd_underlay, R_F_fd_drawn, R_F_pt_xs, R_F_pt_ys, R_F_pt_size, R_nF, R_mo_fields, R_mo_colour, R_mo_layer, R_mo_isColumn, R_mo_density, R_mo_longest, R_mo_isKnown, R_mo_thrown, R_lw_out))
    (kk : ∀ (ad1 : Nat → Nat) (σ : Nat → va_E) (H : Heap) (locs : List Loc) (cells1 slots1 : Nat), cells1 ≤ cells + 16 → slots1 ≤ slots + 8500 → (∀ i, i < N → ad1 i = ad i) → (0 ≤ R_nF ∧ N ≤ 46 + 7 * R_nF.toNat) → zH D ad1 (46 + 7 * R_nF.toNat) A s.heap σ H locs → ∀ (h_sp : σ 0 = oC_sp ad1 R_sp_fieldCount sp_trimBound R_sp_planned) (h_sp_fields : σ 1 = .inl (cF, 8, .inr (.inr (.inr (.inr (zFA ad1 R_nF)))))) (h_FF : zFF ad1 cI R_nF σ R_F_fd_colour R_F_fd_layer R_F_fd_column R_F_fd_cornerXs R_F_fd_cornerYs R_F_fd_crossings R_F_fd_cornerCount R_F_fd_crossingCount R_F_fd_density R_F_fd_length R_F_fd_shift R_F_fd_pull R_F_fd_underlay R_F_fd_drawn R_F_pt_xs R_F_pt_ys R_F_pt_size) (h_mo : σ 19 = oC_mo ad1 R_mo_fields mo_bound mo_points mo_crossings R_mo_isKnown mo_commands mo_needleX mo_needleY mo_hasFile mo_format mo_length mo_heads mo_late mo_ran mo_program R_mo_thrown mo_rowY mo_stitches) (h_mo_colour : σ 20 = .inl (cI, 8, .inl (zA R_mo_colour))) (h_mo_layer : σ 21 = .inl (cI, 8, .inl (zA R_mo_layer))) (h_mo_isColumn : σ 22 = .inl (cZ, 8, .inl (zA R_mo_isColumn))) (h_mo_density : σ 26 = .inl (cI, 8, .inl (zA R_mo_density))) (h_mo_longest : σ 27 = .inl (cI, 8, .inl (zA R_mo_longest))) (h_lw_out : zO cL σ R_lw_out), ∀ (hbg : ∀ i : Nat, i < 46 → i ≠ 0 → i ≠ 1 → i ≠ 19 → i ≠ 20 → i ≠ 21 → i ≠ 22 → i ≠ 26 → i ≠ 27 → i ≠ 44 → σ i = σ0 i) (ls : Array Slot), lv_has ls 10 [(0, .ref b), (1, .ref (ad1 0)), (2, .ref (ad1 19)), (3, .ref (ad1 44)), (4, .ref (ad1 45)), (5, .int (zI ii))] → W p l e room_1 s m args below meth c H locs cells1 slots1 Q (F0 m 1430 ls [])) : W p l e room_1 s m args below meth c H locs cells slots Q (F0 m 152 ls []) := by
  unfold f_law_field at hf
  refine lv_aload_n hx hb dL_law_152 rfl (lv_at hl 1 rfl) ?_
  refine lv_aload_n hx hb dL_law_153 rfl (lv_at hl 0 rfl) ?_
  refine lv_iload hx hb dL_law_154 (lv_at hl 5 rfl) ?_
  refine lv_iconst (v := zI 1) hx hb dL_law_156 (by decide +kernel) ?_
  refine lz_iadd hx hb dL_law_157 ?_
  refine lz_sld hx hb hX0 hbl hbA hH.2.2 hiL hL 1 (by decide) hw1 dL_law_158 ?_
  refine lv_aload_n hx hb dL_law_159 rfl (lv_at hl 0 rfl) ?_
  refine lv_iload hx hb dL_law_160 (lv_at hl 5 rfl) ?_
  refine lv_iconst (v := zI 2) hx hb dL_law_162 (by decide +kernel) ?_
  refine lz_iadd hx hb dL_law_163 ?_
  refine lz_sld hx hb hX0 hbl hbA hH.2.2 hiL hL 2 (by decide) hw2 dL_law_164 ?_
  refine lv_aload_n hx hb dL_law_165 rfl (lv_at hl 0 rfl) ?_
  refine lv_iload hx hb dL_law_166 (lv_at hl 5 rfl) ?_
  refine lv_iconst (v := zI 3) hx hb dL_law_168 (by decide +kernel) ?_
  refine lz_iadd hx hb dL_law_169 ?_
  refine lz_sld hx hb hX0 hbl hbA hH.2.2 hiL hL 3 (by decide) hw3 dL_law_170 ?_
  refine lz_tern hx hb hR3 dL_law_171 dL_law_174 dL_law_175 dL_law_178 ?_
  refine lv_aload_n hx hb dL_law_179 rfl (lv_at hl 3 rfl) ?_
  obtain ⟨r0, b0, b1, b2, b3, b4, b5, b6, b7, b8, b9, b10, b11, b12, b13, b14, b15, b16, b17, b18, b19, b20, k1, hf⟩ := zb22_some hf
  obtain ⟨c0, c1, c2, c3, c4, c5, c6, c7, k2, hf⟩ := zb8_some hf
  cases hf
  refine zcHn (As := [.ref (ad 0), .int (zI w1), .int (zI w2), .int (zI (if w3 = 0 then 0 else 1)), .ref (ad 44)]) (rest := []) hx hb hml hown hts hl.1 hK hH hA (hXs.kept hH.2.2.2.1) hNc (c_L_field (zD_inj hH.2.1) hN hNF h0 hst h_sp h_sp_fields h_FF h_lw_out (by split; exact Or.inl rfl; exact Or.inr rfl) k1) zk_t2_120 zk_t2_121 zk_t1_0 zk_t2_122 hd_L_field rfl ⟨rfl, rfl, Nat.le_of_ble_eq_true rfl, Nat.le_of_ble_eq_true rfl⟩ ⟨by show _ ≤ 83562; omega, by show _ ≤ 8845420; omega⟩ rfl (Nat.le_of_ble_eq_true rfl) dL_law_180 (fun q ad1 σ1 H1 l1 hba hp hH => ?_)
  obtain ⟨hr1, hN1, h_sp, h_sp_fields, h_FF, h_lw_out, hn⟩ := hp
  subst hr1
  have hb46 : ∀ i, i < 46 → ad1 i = ad i := fun i hi => hba i (by omega)
  have h_mo := (hn 19 (by decide) (by decide) (by decide) (by decide)).trans h_mo
  have h_mo_colour := (hn 20 (by decide) (by decide) (by decide) (by decide)).trans h_mo_colour
  have h_mo_layer := (hn 21 (by decide) (by decide) (by decide) (by decide)).trans h_mo_layer
  have h_mo_isColumn := (hn 22 (by decide) (by decide) (by decide) (by decide)).trans h_mo_isColumn
  have h_mo_density := (hn 26 (by decide) (by decide) (by decide) (by decide)).trans h_mo_density
  have h_mo_longest := (hn 27 (by decide) (by decide) (by decide) (by decide)).trans h_mo_longest
  rw [← oC_mo_e hb46] at h_mo
  rw [← hb46 0 (by decide), ← hb46 19 (by decide), ← hb46 44 (by decide), ← hb46 45 (by decide)] at hl
  refine w_law_field2 hx hb hml hown hts hst hNc hX0 hbl hbA hA hK hXs hL (by omega) rfl hH h_mo h_mo_colour h_mo_layer h_mo_isColumn h_mo_density h_mo_longest h_lw_out hiL hw1 hR1 hw2 hR2 hw3 hR3 (by omega) hl k2 (fun σ2 H2 l2 e1 e2 g1 g2 hH h_mo h_mo_colour h_mo_layer h_mo_isColumn h_mo_density h_mo_longest hbg2 ls hl => ?_)
  exact kk ad1 σ2 H2 l2 e1 e2 (by omega) (by omega) hba hN1 hH ((hbg2 0 (by decide) (by decide) (by decide) (by decide) (by decide) (by decide)).trans h_sp) ((hbg2 1 (by decide) (by decide) (by decide) (by decide) (by decide) (by decide)).trans h_sp_fields) (zFF_keep (fun i hi => hbg2 i (by omega) (by omega) (by omega) (by omega) (by omega) (by omega)) h_FF) h_mo h_mo_colour h_mo_layer h_mo_isColumn h_mo_density h_mo_longest (zO_keep h_lw_out (hbg2 44 (by decide) (by decide) (by decide) (by decide) (by decide) (by decide))) (fun i h46 a0 a1 m19 m20 m21 m22 m26 m27 a44 => (hbg2 i m19 m20 m21 m22 m26 m27).trans (hn i h46 a0 a1 a44)) ls hl
