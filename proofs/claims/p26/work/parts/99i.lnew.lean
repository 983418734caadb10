/-! ===== a new object; a cell of the script ===== -/
theorem yfr1 {A : Nat → Prop} {H0 H H1 : Heap} {locs : List Loc} (hS : va_S A H0 H locs) (z : H.size ≤ H1.size) (o : ∀ q, q < H.size → H1[q]? = H[q]?) : va_S A H0 H1 locs := ⟨Nat.le_trans hS.1 z, fun x h1 h2 => (o x (Nat.lt_of_lt_of_le h1 hS.1)).trans (hS.2.1 x h1 h2), hS.2.2⟩
abbrev yNul : List Value := [.null, .null, .null, .null, .null, .null, .int 0, .int 0, .int 0]
/-- an object at its start -/
def yS0 : yS := ((0, (fun _ => 0), (fun _ => 0), (fun _ => 0), (fun _ _ => 0), (fun _ _ => 0), (fun _ => 0), (fun _ => 0), (fun _ => 0), (fun _ => 0), (fun _ => 0), (fun _ => 0)), 8, (0, 0, (fun _ => 0)), (0, 0, 0, 0, (fun _ => 0), (fun _ => 0), (fun _ => 0)))
theorem yS0_wf : yWf yS0 := by
  refine ⟨⟨⟨by show 0 ≤ (0 : Int) ∧ (0 : Int) ≤ 8; omega, fun i h0 h1 => ?_⟩, fun i h0 h1 => ?_⟩, by show 0 ≤ (8 : Int) ∧ (8 : Int) ≤ 100; omega, ⟨by show 0 ≤ (0 : Int) ∧ (0 : Int) ≤ 49924; omega, Or.inl rfl, fun j h0 h1 => ?_⟩, by show 0 ≤ (0 : Int) ∧ (0 : Int) ≤ 4; omega, by show 0 ≤ (0 : Int) ∧ (0 : Int) ≤ 20; omega, by show 0 ≤ (0 : Int) ∧ (0 : Int) ≤ 16641; omega, by show 0 ≤ (0 : Int) ∧ (0 : Int) ≤ 0; omega, fun j h0 h1 => ?_, fun j h0 h1 => ?_⟩
  · replace h1 : i < 0 := h1; omega
  · replace h1 : i < 0 := h1; omega
  · replace h1 : j < 0 := h1; omega
  · replace h1 : j < 0 := h1; omega
  · replace h1 : j < 0 := h1; omega
theorem yS0_lv : yLv yS0 (zup (fun _ => 0) 1 8) 0 := by
  refine ⟨yS0_wf, rfl, rfl, rfl, rfl, fun h => ?_, fun f h0 h1 => ?_, fun f h0 h1 => ?_, fun h h0 h1 => ?_⟩
  · replace h : (0 : Int) < 0 := h; omega
  · replace h1 : f < 0 := h1; omega
  · replace h0 : 0 ≤ f := h0
    exact zup_n (by omega)
  · replace h1 : h < 0 := h1; omega
theorem yFA_nil (ad : Nat → Nat) : zFA ad 0 = fun _ => none := by
  funext j
  show zfo ad 0 (j : Int) = none
  exact zfo_none (by omega)
section YI
variable {p : Program} {l : Launch} {e : Env} {R : Room} {s : State} {m : MethodId} {args : Array Value} {below : List Frame} {meth : Method} {c : Code} {H : Heap} {locs : List Loc} {cells slots : Nat} {Q : State → Prop}
variable {cc : ByteArray} {pc : Nat} {ls : Array Slot} {rest : List Value} {D : va_G} {cI cZ cF cL cD : ClassId} {A : Nat → Prop} {H0 : Heap}
theorem ynew {T : List (ClassId × FieldType)} (hx : p.tables.exec = Jvm.exec) (hb : c.code = cc) (hts : ∀ w ∈ wsL_law, w.before args s = true) (hown : s.vm.findClass RL = some m.cls) (hK : zK D T s) (hcells : cells + 1 ≤ R.cells) (hslots : slots + 9 ≤ R.slots) (hdg : decode cc pc = .ok (.new 25, 3))
    (kk : ∀ H1 : Heap, va_P D vwCl [(H.size, (.inr (6, yNul) : va_E))] H1 → H1.size = H.size + 1 → (∀ q, q < H.size → H1[q]? = H[q]?) → W p l e R s m args below meth c H1 locs (cells + 1) (slots + 9) Q (F0 m (pc + 3) ls (.ref H.size :: rest))) : W p l e R s m args below meth c H locs cells slots Q (F0 m pc ls rest) := by
  have hc : vwCl[6]? = some (RX6, TX6, 9) := rfl
  have hKn := hK.1.1 6 _ hc
  refine W.newcK hx hb hown (hts _ zk_t1_15) (hts _ zk_t1_16) (hts _ zk_t1_1) rfl hdg hcells hslots hKn.2.1 rfl fun H1 kC hkC e1 z1 o1 => ?_
  refine kk H1 (fun k x hx => ?_) z1 o1
  match k, hx with
  | 0, hx =>
    cases hx
    exact ⟨_, hc, (u_born tyX6 hts inlX6 hKn hkC e1 tyX6_ok).to (fun j hj => match j, hj with | 0, _ => rfl | 1, _ => rfl | 2, _ => rfl | 3, _ => rfl | 4, _ => rfl | 5, _ => rfl | 6, _ => rfl | 7, _ => rfl | 8, _ => rfl | q + 9, h => absurd h (by omega))⟩
  | k + 1, hx => cases hx
theorem ynewa (hx : p.tables.exec = Jvm.exec) (hb : c.code = cc) (hts : ∀ w ∈ wsL_law, w.before args s = true) (hK : zK D (zT cI cZ cF cL cD) s) (hcells : cells + 1 ≤ R.cells) (hslots : slots + 26 ≤ R.slots) (hdg : decode cc pc = .ok (.newarray .int, 2))
    (kk : ∀ H1 : Heap, va_P D vwCl [(H.size, (.inl (cI, 26, .inl (zA (fun _ => 0))) : va_E))] H1 → H1.size = H.size + 1 → (∀ q, q < H.size → H1[q]? = H[q]?) → W p l e R s m args below meth c H1 locs (cells + 1) (slots + 26) Q (F0 m (pc + 2) ls (.ref H.size :: rest))) : W p l e R s m args below meth c H locs cells slots Q (F0 m pc ls (.int (zI 26) :: rest)) := by
  refine va_newaK (atype := .int) hx hb (hts _ (show Cond.arrayClass (newarray.typeOf .int) ∈ wsL_law from zk_t1_73)) rfl hdg rfl (by decide +kernel) (N := 26) (by decide +kernel) (by decide) hcells hslots rfl fun H1 cA e1 z1 o1 hAr hNm => ?_
  have e2 : some cA = some cI := (show s.vm.findClass ("[" ++ FieldType.int.toString) = some cA from hNm).symm.trans (hK.1.2 0 _ rfl).2
  cases e2
  refine kk H1 (fun k x hx => ?_) z1 o1
  match k, hx with
  | 0, hx =>
    cases hx
    exact e1
  | k + 1, hx => cases hx
theorem ycI {nL : Nat} {q : Nat} (hx : p.tables.exec = Jvm.exec) (hb : c.code = cc) (hml : c.maxLocals = nL) (hown : s.vm.findClass RL = some m.cls) (hts : ∀ w ∈ wsL_law, w.before args s = true) (hsz : ls.size = nL) (hK : zK D (zT cI cZ cF cL cD) s) (hao : va_AO RX0 s) (hP : va_P D vwCl [(q, (.inr (6, yNul) : va_E))] H) (hA : A q) (hA0 : ∀ x, H0.size ≤ x → A x) (hS : va_S A H0 H locs)
    (hR : rmX6_init.frames + 1 ≤ R.frames ∧ 8 + (1 + 11) + rmX6_init.locals ≤ R.locals) (hcs : cells + 18 ≤ R.cells ∧ slots + 134219 ≤ R.slots) (hrest : (rest.map fun v => v.category).sum ≤ 8) (hdg : decode cc pc = .ok (.invokespecial 136, 3))
    (kk : ∀ (F : Nat → Prop) (H1 : Heap) (locs1 : List Loc), yOb D cI cZ cF q F yS0 H1 → (∀ x, F x → x = q ∨ H.size ≤ x) → H.size ≤ H1.size → (∀ x, x < H.size → ¬ x = q → H1[x]? = H[x]?) → va_S A H0 H1 locs1 → W p l e R s m args below meth c H1 locs1 (cells + 18) (slots + 134219) Q (F0 m (pc + 3) ls rest)) : W p l e R s m args below meth c H locs cells slots Q (F0 m pc ls (.ref q :: rest)) := by
  have hM := c_X6_init (l := l) (D := D) (cI := cI) (cZ := cZ) (cF := cF) (cL := cL) (cD := cD) (ad := fun _ => q) (fun i j hi hj _ => by omega) (σ0 := fun _ => .inr (6, yNul)) (sz := H.size) rfl
  have hFq : ∀ x, zFr (fun _ => q) 1 H.size x → A x := fun x h => h.elim (fun ⟨k, hk, e⟩ => e ▸ hA) (fun h => hA0 x (Nat.le_trans hS.1 h))
  have hP1 : va_P D vwCl (zl (fun _ => q) 1 (fun _ => .inr (6, yNul))) H := hP
  have cw := cwI (own := RL) (index := 136) (y := yX6_init) (bytes := cX6_init) (maxL := 1) (mc := 18) (ms := 134219) (rm := rmX6_init) (R := R) 0 hts (zk_in (Cond.code yX6_init cX6_init 1 none :: wsL_law) (fun w hw => by
    rcases List.mem_cons.mp hw with rfl | hw
    · exact zk_t1_19
    · exact hw)) rfl rfl rfl (hts _ zk_t1_1) (hts _ zk_t1_17) (hts _ zk_t1_18) rfl hd_X6_init hR
  refine va_callv (va_runI (b := q) (As := []) (rest := rest) ⟨hx, hb, hml, hown, hts⟩ hM cw ⟨zPreA_blind, fun U hU hW => ⟨rfl, by rw [hU], by rw [hU]; exact hP1, hK.warm hW, va_AO.moved hW.alike hao⟩⟩ rfl rfl hsz rfl (lv_room hrest) hdg hcs) hS (fun x _ h => hFq x h) hFq (fun u t H1 locs1 ht hvm hw hB hz1 hk1 hS => ?_)
  rw [ht] at hB
  obtain ⟨ad1, σ1⟩ := u
  obtain ⟨ha, b0, b1, b2, b3, b4, b5, b6, b7, b8, b9, b10, b11, b12, b13, b14, b15, b16, b17, b18, -⟩ := hw
  obtain ⟨hP2, hD2⟩ := hB
  refine kk (fun x => ∃ k, k < 19 ∧ x = ad1 k) H1 locs1 ⟨ad1, σ1, (fun _ => 0), 0, (fun _ _ => 0), (fun _ => 0), (fun _ => 0), (fun _ _ => 0), (fun _ _ => 0), (fun _ => 0), (fun _ => 0), (fun _ => 0), (fun _ => 0), (fun _ => 0), (fun _ => 0), (fun _ => 0), 0, 0, 0, 0, -1, (fun _ => 0), 0, (fun _ => 0), 0, 0, (fun _ => 0), (fun _ => 0), (fun _ => 0), (fun _ => 0), zD_inj hD2, ha 0 (by decide), fun x => Iff.rfl, hP2, ?_, yS0_wf, ⟨fun i h0 h1 => by replace h1 : i < 0 := h1; omega, Or.inl rfl⟩, fun j h0 h1 => by replace h1 : j < 0 := h1; omega, rfl, fun j h0 h1 => ?_, fun j h0 h1 => by replace h1 : j < 0 := h1; omega⟩ (fun x hx => ?_) hz1 (fun x hx hq => hk1 x hx (fun z => ?_)) hS
  · refine ⟨b0, ?_, b2, b3, b4, b5, b6, b7, b8, b9, b10, b11, b12, b13, b14, b15, b16, b17, b18, fun f h0 h1 => ?_⟩
    · refine Eq.trans b1 ?_
      show _ = Sum.inl (cF, 8, Sum.inr (Sum.inr (Sum.inr (Sum.inr (zFA ad1 0)))))
      rw [yFA_nil]
    · replace h1 : f < 0 := h1
      exact absurd h1 (by omega)
  · replace h1 : j ≤ 0 := h1
    show (0 : Int) = qCt _ j
    rw [show j = 0 by omega, qCt_0]
  · obtain ⟨k, hk, rfl⟩ := hx
    rcases hD2.2 k _ (zl_at hk) with ⟨j, hj, e⟩ | z
    · exact Or.inl e
    · exact Or.inr z
  · rcases z with ⟨k, hk, e⟩ | z
    · exact hq e
    · omega
end YI
def yPcell (b L sz : Nat) (xs : Nat → Int32) (k : Int) : Array Value → State → Prop := va_Pc [.ref b, .int (zI k)] (fun U => U.heap.size = sz ∧ va_X b L xs U U.heap)
theorem yPcell_blind {b L sz : Nat} {xs : Nat → Int32} {k : Int} : FrameBlind (yPcell b L sz xs k) := fun a U g mk q => by
  obtain ⟨q0, q1, qX⟩ := q
  have hW : U.vm.Alike (U.calling g mk a).vm := Vm.Alike.refl U.vm
  exact ⟨q0, q1, va_X.moved (u := U) (U := U.calling g mk a) hW qX⟩
abbrev rmL_cell : Room := { frames := 0, cells := 0, slots := 0, locals := 0 }
theorem hd_L_cell : yL_cell.cls ≠ "java/lang/invoke/MethodHandle" ∧ yL_cell.cls ≠ "java/lang/invoke/VarHandle" ∧ (parseMethodDescriptor yL_cell.desc).map (fun d => d.parameters.length) = some 2 := by decide +kernel
set_option maxHeartbeats 4000000 in
set_option maxRecDepth 100000 in
theorem c_L_cell {l : Launch} {b L sz : Nat} {xs : Nat → Int32} {k : Int} (hk : 0 ≤ k ∧ k ≤ 1000) (hL : L ≤ 260) :
    Met l yL_cell (Cond.code yL_cell cL_cell 3 (some .int) :: wsL_law) rmL_cell (yPcell b L sz xs k) (va_Qi (fun (_ : Int32) (_ : Unit) => True) (fun _ _ => True) (fun x => sz ≤ x)) 0 0 (fun x => sz ≤ x) := by
  refine Met.ofW (cc := cL_cell) (maxL := 3) (ret := some .int) (ws' := wsL_law) (by decide) rfl ?_
  intro p e s m args below meth c s₁ B hml hv
  obtain ⟨rfl, hsz, hX⟩ := hv
  have hts := atoms_spec (ws := Cond.code yL_cell cL_cell 3 (some .int) :: wsL_law) B.pre
  have hown : s.vm.findClass yL_cell.cls = some m.cls := findClass_of_methodNamed B.named
  have hl := lv_entry [.ref b, .int (zI k)] (n := 3) (Nat.le_of_ble_eq_true rfl)
  rw [lg_entry_eq]
  generalize (lg_sl ([.ref b, .int (zI k)]) ++ List.replicate (3 - (lg_sl ([.ref b, .int (zI k)])).length) Slot.unset).toArray = ls at hl ⊢
  have hl : lv_has ls 3 [(0, .ref b), (1, .int (zI k))] := hl
  have hx := B.exec
  have hb := B.bytes
  subst hsz
  have hbl : b < s.heap.size := by
    obtain ⟨scr, h1, -⟩ := hX
    exact (Array.getElem?_eq_some_iff.mp h1).1
  have hS : va_S (fun x => s.heap.size ≤ x) s.heap s.heap [] := va_S.rf
  have J19 : ∀ v : Int32, W p l e rmL_cell s m #[Value.ref b, Value.int (zI k)] below meth c s.heap [] 0 0 (MQ below (va_Qi (fun (_ : Int32) (_ : Unit) => True) (fun _ _ => True) (fun x => s.heap.size ≤ x)) #[Value.ref b, Value.int (zI k)] s 0 0 (fun x => s.heap.size ≤ x)) (F0 m 19 ls [.int v]) := by
    intro v
    refine lv_istore_n (lv' := [(2, .int v), (0, .ref b), (1, .int (zI k))]) hx hb dL_cell_19 rfl hl (by decide) rfl (fun ls hl => ?_)
    refine lv_iload_n hx hb dL_cell_20 rfl (lv_at hl 0 rfl) ?_
    refine lv_iload_n hx hb dL_cell_21 rfl (lv_at hl 0 rfl) ?_
    refine lv_bipush (v := zI 16) hx hb dL_cell_22 (by decide +kernel) ?_
    refine lv_iushr hx hb dL_cell_24 rfl ?_
    refine lv_ixor hx hb dL_cell_25 ?_
    refine lv_ldc (v := zI 1014330183) hx hb hown (hts _ (List.mem_cons_of_mem _ (show Cond.constant RL 8 (zI 1014330183) ∈ wsL_law from zk_t1_181))) dL_cell_26 ?_
    refine lv_imul hx hb dL_cell_28 ?_
    refine lv_sipush (v := zI 329) hx hb dL_cell_29 (by decide +kernel) ?_
    refine lv_iload_n hx hb dL_cell_32 rfl (lv_at hl 2 rfl) ?_
    refine lv_imul hx hb dL_cell_33 ?_
    refine lv_iadd hx hb dL_cell_34 ?_
    exact yret0 hx hb B.returns B.notSynchronized rfl hS trivial dL_cell_35
  refine lv_iload_n hx hb dL_cell_0 rfl (lv_at hl 1 rfl) ?_
  refine lv_aload_n hx hb dL_cell_1 rfl (lv_at hl 0 rfl) ?_
  refine va_slen hx hb hX hbl (Nat.not_le.mpr hbl) hS dL_cell_2 ?_
  rw [show Int32.ofNat L = zI (L : Int) from rfl]
  refine lz_icmp_ge (tgt := 12) hx hb ⟨⟨by omega, by omega⟩, ⟨by omega, by omega⟩⟩ dL_cell_3 (by decide) (fun q => ?_) (fun q => ?_)
  · refine lv_ldc (v := zI 91193) hx hb hown (hts _ (List.mem_cons_of_mem _ (show Cond.constant RL 7 (zI 91193) ∈ wsL_law from zk_t1_180))) dL_cell_12 ?_
    refine lv_iload_n hx hb dL_cell_14 rfl (lv_at hl 1 rfl) ?_
    refine lv_bipush (v := zI 109) hx hb dL_cell_15 (by decide +kernel) ?_
    refine lv_iadd hx hb dL_cell_17 ?_
    refine lv_imul hx hb dL_cell_18 ?_
    exact J19 _
  · refine lv_aload_n hx hb dL_cell_6 rfl (lv_at hl 0 rfl) ?_
    refine lv_iload_n hx hb dL_cell_7 rfl (lv_at hl 1 rfl) ?_
    refine va_sld hx hb hX hbl (Nat.not_le.mpr hbl) hS (zI_in (n := L) ⟨hk.1, by omega⟩ (by omega)) dL_cell_8 ?_
    refine lv_goto (tgt := 19) hx hb dL_cell_9 (by decide) ?_
    exact J19 _
