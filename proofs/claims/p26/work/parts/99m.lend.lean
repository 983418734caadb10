/-! ===== the start, and the claim out of it (the skeleton's own lines) ===== -/
set_option maxHeartbeats 4000000 in
set_option maxRecDepth 100000 in
theorem yl_start0 {p : Program} {l : Launch} {e : Env} {s : State} {m : MethodId} {args : Array Value} {below : List Frame} {meth : Method} {c : Code} {Q : State → Prop} {D : va_G} {cI cZ cF cL cD : ClassId} {b L : Nat} {xs : Nat → Int32} (hx : p.tables.exec = Jvm.exec) (hb : c.code = cL_law) (hml : c.maxLocals = 9) (hown : s.vm.findClass RL = some m.cls) (hts : ∀ w ∈ wsL_law, w.before args s = true) (hst : l.stackTraces = false) (hNc : zNc s) (hX0 : va_X b L xs s s.heap) (hbl : b < s.heap.size) (hK : zK D (zT cI cZ cF cL cD) s) (hao : va_AO RX0 s) (hX : zXs (fun q => s.heap.size ≤ q) s s.heap) (hL : L ≤ 260) {ls : Array Slot} (hl : lv_has ls 9 [(0, .ref b)])
    (kk : ∀ (H1 : Heap) (locs1 : List Loc) (cells1 slots1 : Nat) (ls : Array Slot), cells1 ≤ 600074 → slots1 ≤ 7301549 → (∀ q ∈ locs1, s.heap.size ≤ q.base) → W p l e room_1 s m args below meth c H1 locs1 cells1 slots1 Q (F0 m 239 ls [.int (zI 1)])) : W p l e room_1 s m args below meth c s.heap [] 0 0 Q (F0 m 0 ls []) := by
  have hS0 : va_S (fun q => s.heap.size ≤ q) s.heap s.heap [] := va_S.rf
  refine ynew hx hb hts hown hK (by show 0 + 1 ≤ 600074; decide) (by show 0 + 9 ≤ 7301549; decide) dL_law_0 (fun H1 hP1 z1 o1 => ?_)
  have hS1 := yfr1 hS0 (by omega) o1
  refine lv_dup hx hb dL_law_3 rfl ?_
  refine ycI (rest := [.ref s.heap.size]) hx hb hml hown hts hl.1 hK hao hP1 (Nat.le_refl _) (fun _ h => h) hS1 ⟨Nat.le_of_ble_eq_true rfl, Nat.le_of_ble_eq_true rfl⟩ ⟨by show _ ≤ 600074; decide, by show _ ≤ 7301549; decide⟩ (Nat.le_of_ble_eq_true rfl) dL_law_4 (fun F1 H2 l2 hO1 hF1 z2 o2 hS2 => ?_)
  refine lv_astore_n (lv' := [(1, .ref s.heap.size), (0, .ref b)]) hx hb dL_law_7 rfl hl (by decide) rfl (fun ls hl => ?_)
  refine ynew hx hb hts hown hK (by show _ ≤ 600074; decide) (by show _ ≤ 7301549; decide) dL_law_8 (fun H3 hP3 z3 o3 => ?_)
  have hS3 := yfr1 hS2 (by omega) o3
  refine lv_dup hx hb dL_law_11 rfl ?_
  have g2 : s.heap.size ≤ H2.size := hS2.1
  refine ycI (rest := [.ref H2.size]) hx hb hml hown hts hl.1 hK hao hP3 g2 (fun _ h => h) hS3 ⟨Nat.le_of_ble_eq_true rfl, Nat.le_of_ble_eq_true rfl⟩ ⟨by show _ ≤ 600074; decide, by show _ ≤ 7301549; decide⟩ (Nat.le_of_ble_eq_true rfl) dL_law_12 (fun F2 H4 l4 hO2 hF2 z4 o4 hS4 => ?_)
  refine lv_astore_n (lv' := [(2, .ref H2.size), (1, .ref s.heap.size), (0, .ref b)]) hx hb dL_law_15 rfl hl (by decide) rfl (fun ls hl => ?_)
  have lt1 : ∀ x, F1 x → x < H2.size := fun x hx => yOb_lt hO1 hx
  have lt2 : ∀ x, F2 x → x < H4.size := fun x hx => yOb_lt hO2 hx
  have hO1 := yOb_kept (H1 := H4) hO1 (fun x hx => by
    have := lt1 x hx
    exact (o4 x (by omega) (by omega)).trans (o3 x this))
  refine lv_bipush (v := zI 26) hx hb dL_law_16 (by decide +kernel) ?_
  refine ynewa hx hb hts hK (by show _ ≤ 600074; decide) (by show _ ≤ 7301549; decide) dL_law_18 (fun H5 hP5 z5 o5 => ?_)
  have hS5 := yfr1 hS4 (by omega) o5
  refine lv_astore_n (lv' := [(3, .ref H4.size), (2, .ref H2.size), (1, .ref s.heap.size), (0, .ref b)]) hx hb dL_law_20 rfl hl (by decide) rfl (fun ls hl => ?_)
  have hO1 := yOb_kept (H1 := H5) hO1 (fun x hx => by
    have := lt1 x hx
    exact o5 x (by omega))
  have hO2 := yOb_kept (H1 := H5) hO2 (fun x hx => o5 x (lt2 x hx))
  have hG : yG D cI cZ cF s.heap.size F1 yS0 H2.size F2 yS0 H4.size (fun _ => 0) (fun _ => False) (fun _ => False) s.heap H5 l4 := by
    refine ⟨⟨hO1, hO2, hP5, fun x h1 h2 => ?_, fun h1 => ?_, fun h2 => ?_⟩, ⟨fun _ h => h.elim, fun x h => Or.inr ?_⟩, ⟨fun _ h => h.elim, fun x h => Or.inr ?_⟩, ⟨hS5.1, fun q hq hn => hS5.2.1 q hq (fun z => hn (Or.inr (Or.inr (Or.inr z)))), fun q hq => Or.inr (Or.inr (Or.inr (hS5.2.2 q hq)))⟩⟩
    · have := lt1 x h1
      have := hF2 x h2
      omega
    · have := lt1 _ h1
      omega
    · have := lt2 _ h2
      omega
    · have := hF1 x h
      omega
    · have := hF2 x h
      omega
  have hyA : ∀ q, yA (fun _ => False) (fun _ => False) H4.size s.heap.size q → s.heap.size ≤ q := fun q h => by
    rcases h with h | h | h | h
    · exact h.elim
    · exact h.elim
    · omega
    · exact h
  have hXA : zXs (yA (fun _ => False) (fun _ => False) H4.size s.heap.size) s s.heap := hX.narrow hyA
  refine lv_aload_n hx hb dL_law_21 rfl (lv_at hl 0 rfl) ?_
  refine lv_iconst (v := zI 1) hx hb dL_law_22 (by decide +kernel) ?_
  refine lv_bipush (v := zI 8) hx hb dL_law_23 (by decide +kernel) ?_
  refine ygst hx hb hK hG (by decide) dL_law_25 (fun H6 l6 hG => ?_)
  refine lv_aload_n hx hb dL_law_26 rfl (lv_at hl 2 rfl) ?_
  refine lv_aload_n hx hb dL_law_27 rfl (lv_at hl 0 rfl) ?_
  refine ycSi (As := [.ref s.heap.size, .ref H4.size]) (rest := []) (rm := rmL_refused) (mc1 := 170) (ms1 := 100764) hx hb hml hown hts hl.1 hK (hXA.kept hG.2.2.2.2.1) hNc hG.1 (yG_fw hG) hG.2.2.2 (c_L_refused hst (yl_refused yS0_lv)) zk_t4_95 zk_t4_96 zk_t1_0 zk_t4_97 hd_L_refused rfl ⟨rfl, rfl, Nat.le_of_ble_eq_true rfl, Nat.le_of_ble_eq_true rfl⟩ ⟨by show _ ≤ 600074; decide, by show _ ≤ 7301549; decide⟩ rfl (Nat.le_of_ble_eq_true rfl) dL_law_28 (fun r u H locs hp hW9 hz hk9 hS => ?_)
  have hG := yG_w hG hW9 hp.2 hz hS
  have hr9 := hp.1
  subst hr9
  refine lv_istore (lv' := [(4, .int (zI 1)), (3, .ref H4.size), (2, .ref H2.size), (1, .ref s.heap.size), (0, .ref b)]) hx hb dL_law_31 hl (by decide) rfl (fun ls hl => ?_)
  refine lv_iconst (v := zI 0) hx hb dL_law_33 (by decide +kernel) ?_
  refine lv_istore (lv' := [(5, .int (zI 0)), (4, .int (zI 1)), (3, .ref H4.size), (2, .ref H2.size), (1, .ref s.heap.size), (0, .ref b)]) hx hb dL_law_34 hl (by decide) rfl (fun ls hl => ?_)
  exact yl_loop (L := L) (xs := xs) hx hb hml hown hts hst hNc hX0 hbl (fun z => by have := hyA b z; omega) hK hXA hL (fun H1 locs1 c1 s1 ls e1 e2 hS => kk H1 locs1 c1 s1 ls e1 e2 (fun q hq => hyA _ (hS.2.2 q hq))) 60 0 yS0 (zup (fun _ => 0) 1 8) _ _ H locs _ _ ls rfl (Int.le_refl 0) yS0_lv hG (by decide) (by decide) hl
/-- YOUR PART: from the entry, for every script of at most 260 ints, the law comes to its end with true ('hflags': the launch's flags, for a law that throws: no stack traces) -/
theorem whole_start {p : Program} {e : Env} {s : State} {m : MethodId} {below : List Frame} {meth : Method} {c : Code} (l : Launch) (hflags : l.flags = flags0) {b L : Nat} {xs : Nat → Int32} (hL : L ≤ 260) (C0 : lw_At p s m meth c b L xs) : W p l e room_1 s m #[Value.ref b] below meth c s.heap [] 0 0 (lw_Z below #[Value.ref b] s) (entryFrame m ([Value.ref b] : List Value).toArray 9) := by
  obtain ⟨hx, hb, hr, hml, hown, hts0, hX, hbl, hlocks, hgv⟩ := id C0
  have hts : ∀ w ∈ wsL_law, w.before #[Value.ref b] s = true := fun w h => hts0 w (zk_tbl w h)
  have hst : l.stackTraces = false := by
    unfold Launch.stackTraces
    rw [hflags]
    decide +kernel
  obtain ⟨D, cI, cZ, cF, cL, cD, hK, hao⟩ := z_env hts0
  obtain ⟨hXs, hNc⟩ := z_env3 hts0 hgv
  have hl := lv_entry ([.ref b]) (n := 9) (Nat.le_of_ble_eq_true rfl)
  rw [lg_entry_eq]
  generalize (lg_sl ([.ref b]) ++ List.replicate (9 - (lg_sl ([.ref b])).length) Slot.unset).toArray = ls at hl ⊢
  have hl : lv_has ls 9 [(0, .ref b)] := hl
  refine yl_start0 (L := L) (xs := xs) hx hb hml hown hts hst hNc hX hbl hK hao hXs hL hl (fun H1 locs1 c1 s1 ls h1 h2 hq => ?_)
  refine va_forget hq ?_
  refine W.widen h1 h2 ?_
  rw [show zI 1 = 1 from by decide +kernel]
  exact lw_ret (d0 := s.drawn) (Drawn.sameBut.refl s.drawn lw_cs) hx hb hr hlocks dL_law_239
set_option maxHeartbeats 4000000 in
theorem lw_walk (l : Launch) (hflags : l.flags = flags0) (b : Addr) (xs : List Int32) : MetFree l x (headSpec (Jvm.Cond.code x code maxLocals ret :: tables_1) room_1) (lw_P b xs) (fun _ _ _ _ _ => True) lw_Q := by
  refine MetFree.of_bodyS (code := code) (maxLocals := maxLocals) (ret := ret) (by decide) ?_ ?_
  · intro args s m h hn
    obtain ⟨meth, c, h1, h2, h3, h4, h5, h6, -, -⟩ := Cond.code_spec hn (atoms_spec (ws := Jvm.Cond.code x code maxLocals ret :: tables_1) h _ List.mem_cons_self)
    exact ⟨meth, c, h1, h2, h3, h4, h5, h6⟩
  · intro p e s m args below meth c s₁ B hml0 hP _
    obtain ⟨rfl, hx, hbd, hgv⟩ := hP
    obtain ⟨scr, harrAt, hlist, hof, hsmall⟩ := hx
    obtain ⟨hcb, hkn, -, -⟩ := State.arrayAt?_spec harrAt
    have hown : s.vm.findClass R_law = some m.cls := findClass_of_methodNamed B.named
    have hts0 : ∀ c ∈ (Jvm.Cond.code x code maxLocals ret :: tables_1), c.before #[Value.ref b] s = true := atoms_spec (ws := Jvm.Cond.code x code maxLocals ret :: tables_1) B.pre
    have hts : ∀ w ∈ lw_tbl, w.before #[Value.ref b] s = true := k2_hts_sels lw_privs (fun w hw => hts0 w (List.mem_cons_of_mem _ hw)) lw_privs_ok
    have hml : c.maxLocals = 9 := B.maxLocals_eq (hts0 _ List.mem_cons_self)
    have X₀ : Stand p l e room_1 s m #[Value.ref b] below meth c s₁ [] 0 0 := Stand.of_body B
    have hh0 : s₁.heap = s.heap := by rw [B.state]; rfl
    have hsz : scr.slots.size = xs.length := by rw [← Array.length_toList, hlist, List.length_map]
    have hval : ∀ j : Nat, j < xs.length → scr.slots[j]? = some (.int (xs.getD j 0)) := fun j hj => by
      rw [← Array.getElem?_toList, hlist]
      simp [hj]
    have hbl : b < s.heap.size := (Array.getElem?_eq_some_iff.mp hcb).1
    have hX : va_X b xs.length (fun j => xs.getD j 0) s s.heap := ⟨scr, hcb, hof, hkn, hsz, hval⟩
    have K : W p l e room_1 s m #[Value.ref b] below meth c s₁.heap [] 0 0 (lw_Z below #[Value.ref b] s) (entryFrame m ([Value.ref b] : List Value).toArray 9) := by
      rw [hh0]
      exact whole_start l hflags hbd ⟨B.exec, B.bytes, B.returns, hml, hown, hts, hX, hbl, B.notSynchronized, hgv⟩
    obtain ⟨t, a1, o, b1, b2, b3⟩ := K s₁ rfl X₀
    exact ⟨t, o, a1, b1, b2, b3⟩
theorem lw_pre_spec {args : Array Value} {s : State} (h : (Jvm.Cond.and given_1 narrow_1).before args s = true) (hr : rest_1_c.before args s = true) : ∃ (b : Addr) (xs : List Int32), lw_P b xs args s := by
  have hs := flat_of_before _ h
  have hq := flat_of_before _ hr
  have hc : (Cond.count 1).before args s = true := hs _ (by decide +kernel)
  have harr : (Cond.arrayOf (.arg 0) .int).before args s = true := hs _ (by decide +kernel)
  have hle : (Cond.le (.length (.arg 0)) (.int 260)).before args s = true := hs _ (by decide +kernel)
  have hlen : (Cond.isInt (.length (.arg 0))).before args s = true := hq _ (by decide +kernel)
  have hall : (Cond.all (.arg 0) (.isInt (.elem (.arg 0) (.index 0)))).before args s = true := hq _ (by decide +kernel)
  obtain ⟨b, xs, hb, hx⟩ := State.ints_of_pre rfl harr hlen hall
  have hsm : xs.length < 2 ^ 31 := hx.choose_spec.2.2.2
  have hev : (Term.length (.arg 0)).eval args s none [] s = some (.int xs.length.toInt32) := hx.length_eval hb
  have hv := Cond.le_ints hev (show (Term.int 260).eval args s none [] s = some (.int 260) from rfl)
  have hd : xs.length.toInt32 ≤ 260 := by
    simpa [Cond.before, Cond.holds, hv] using hle
  have hN : xs.length ≤ 260 := (Int32.ofNat_le_ofNat hsm (by decide)).mp (show Int32.ofNat xs.length ≤ Int32.ofNat 260 from hd)
  exact ⟨b, xs, Cond.one_arg hc (show args[0]? = some (.ref b) from hb), hx, hN, h⟩
theorem lw_comes (l : Launch) (hflags : l.flags = flags0) : Comes l x (Jvm.Cond.code x code maxLocals ret :: tables_1) room_1 (fun tb e args s => Calls_1 tb e args s ∧ rest_1 tb e args s ∧ Pre_1 tb e args s)
    (fun _ _ args s o t => lw_Q args s o t) := by
  intro p e ha hc hk s m args below hf hfit hheap happ hpre
  obtain ⟨b, xs, hP⟩ := lw_pre_spec hpre.2.2 hpre.2.1
  obtain ⟨k, o, h1, h2, h3, hQ⟩ := lw_walk l hflags b xs p e ha hc hk s m args below hf ((Spec.applies_iff_loose hf).mp happ).1 hP trivial
  exact ⟨k, o, h1, h2, h3, hQ⟩
theorem lw_frame {s t : State} {o : Outcome} {args : Array Value} (h : State.butDraws s t lw_cs (fun t1 => Framed s o t1 [] 600074 7301549)) :
    State.butDraws s t [Jvm.Choice.named "NaN.bits"] (fun t1 => Framed s o t1 (fieldLocs frame_1_writes args s ++ arrayLocs frame_1_arrays args s ++ staticLocs frame_1_statics s) 600074 7301549) := h
theorem lw_limb (L : Cond) (hL : ∀ (args : Array Value) (s t : State), L.after args s (.returned (some (.int 1))) t = true) :
    ArmFor flags0 classFile x code maxLocals ret World_1 tables_1 room_1 Calls_1 rest_1 Pre_1
      (fun tb e a s o t => postC L tb e a s o t ∧ State.butDraws s t [Jvm.Choice.named "NaN.bits"] (fun t1 => Framed s o t1 (fieldLocs frame_1_writes a s ++ arrayLocs frame_1_arrays a s ++ staticLocs frame_1_statics s) 600074 7301549)) := by
  intro l hflags _ _ p e ha hc hk s m args below hf hfit hheap happ hpre
  obtain ⟨k, o, h1, h2, h3, rfl, hF⟩ := lw_comes l hflags p e ha hc hk s m args below hf hfit hheap happ hpre
  exact ⟨k, _, h1, h2, h3, hL args s _, lw_frame hF⟩
theorem i_vc : Claimed_1_1 ∧ Claimed_1_2 := ⟨lw_limb limb_1_1 (fun args s t => by simp [limb_1_1, Cond.after, Cond.holds, Cond.value]), lw_limb limb_1_2 (fun args s t => Cond.after_iff.mpr (by
  first | (rw [show limb_1_2 = Cond.eq .result (.int 1) from rfl, Cond.eq_ints (x := 1) (y := 1) rfl rfl]; simp; done) | (simp [limb_1_2, Cond.value, Term.eval]; done)))⟩
