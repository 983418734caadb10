/-! ===== worlds that grow ===== -/
theorem zl_push {ad : Nat → Nat} {N q : Nat} {σ : Nat → va_E} {e : va_E} : zl (va_up ad N q) (N + 1) (va_up σ N e) = zl ad N σ ++ [(q, e)] := by
  apply List.ext_getElem?
  intro i
  have hlen : (zl ad N σ).length = N := by unfold zl; simp
  by_cases hi : i < N
  · rw [List.getElem?_append_left (by omega), zl_at hi, zl_at (by omega)]
    have : ¬ i = N := by omega
    simp [va_up, this]
  · rw [List.getElem?_append_right (by omega), hlen]
    by_cases h2 : i = N
    · subst h2
      rw [zl_at (by omega)]
      simp [va_up]
    · rw [zl_none (by omega), List.getElem?_eq_none (by simp; omega)]
theorem zD_inj {ad : Nat → Nat} {N : Nat} {σ : Nat → va_E} {A : Nat → Prop} (h : va_D A (zl ad N σ)) : ∀ i j, i < N → j < N → ad i = ad j → i = j := fun i j hi hj e => h.1 i j _ _ (zl_at hi) (zl_at hj) e
theorem zl_cg {ad ad' : Nat → Nat} {N : Nat} {σ : Nat → va_E} (h : ∀ i, i < N → ad' i = ad i) : zl ad' N σ = zl ad N σ := by
  unfold zl
  apply List.map_congr_left
  intro k hk
  rw [h k (List.mem_range.mp hk)]
def zQn (D : va_G) (ad : Nat → Nat) (N N' sz : Nat) (P : (Nat → Nat) → (Nat → va_E) → Prop) : Array Value → State → Outcome → State → Prop := va_Qv (fun u : (Nat → Nat) × (Nat → va_E) => (∀ i, i < N → u.1 i = ad i) ∧ P u.1 u.2) (fun u t => va_P D vwCl (zl u.1 N' u.2) t.heap ∧ va_D (zFr ad N sz) (zl u.1 N' u.2)) (zFr ad N sz)
section ZI
variable {p : Program} {l : Launch} {e : Env} {R : Room} {s : State} {m : MethodId} {args : Array Value} {below : List Frame} {meth : Method} {c : Code} {H : Heap} {locs : List Loc} {cells slots : Nat} {Q : State → Prop}
variable {cc : ByteArray} {pc : Nat} {ls : Array Slot} {rest : List Value} {D : va_G} {T : List (ClassId × FieldType)} {cA : ClassId} {ad : Nat → Nat} {N k : Nat} {σ : Nat → va_E} {A : Nat → Prop} {H0 : Heap}
theorem znewa (hx : p.tables.exec = Jvm.exec) (hb : c.code = cc) {atype : ArrayType} (harr : (Cond.arrayClass (newarray.typeOf atype)) ∈ wsL_law) (hts : ∀ w ∈ wsL_law, w.before args s = true) {ty : FieldType} (hty : newarray.typeOf atype = ty) (hra : ∀ x, va_RA s x ty → s.vm.findClass ("[" ++ ty.toString) = some x) (hK : zK D T s) (hH : zH D ad N A H0 σ H locs) (hA : ∀ q, H0.size ≤ q → A q) (t0 : Nat) (ht : T[t0]? = some (cA, ty))
    {z : Int} {n : Nat} {a0 : vp_A} (ha : ∀ x : ClassId, vp_cell x a0 = arrV x n (fun _ => defaultValue ty)) (hz : ¬ zI z < 0) (hn : (zI z).toNatClampNeg = n) (hbytes : n * componentBytes ty ≤ 536870912) (hcells : cells + 1 ≤ R.cells) (hslots : slots + n ≤ R.slots) (hdg : decode cc pc = .ok (.newarray atype, 2))
    (kk : ∀ (q : Nat) (ad1 : Nat → Nat) (σ1 : Nat → va_E) (H1 : Heap), (∀ i, i < N → ad1 i = ad i) → ad1 N = q → (∀ i, i < N → σ1 i = σ i) → σ1 N = .inl (cA, a0) → zH D ad1 (N + 1) A H0 σ1 H1 locs → W p l e R s m args below meth c H1 locs (cells + 1) (slots + n) Q (F0 m (pc + 2) ls (.ref q :: rest))) : W p l e R s m args below meth c H locs cells slots Q (F0 m pc ls (.int (zI z) :: rest)) := by
  refine va_newa (D := D) hx hb (hts _ harr) hty hK.1 hH.1 hH.2.1 hH.2.2 hA ha hz hn hbytes hcells hslots hdg (fun q cB H1 hK1 hP hD hS => ?_)
  have e1 : some cB = some cA := (hra cB (hK1.2 T.length (cB, ty) (by simp)).2).symm.trans (hra cA (hK.1.2 t0 _ ht).2)
  cases e1
  exact kk q (va_up ad N q) (va_up σ N (.inl (cA, a0))) H1 (fun i hi => if_neg (by omega)) (if_pos rfl) (fun i hi => if_neg (by omega)) (if_pos rfl) ⟨by rw [zl_push]; exact hP, by rw [zl_push]; exact hD, hS⟩
theorem znewq (hx : p.tables.exec = Jvm.exec) (hb : c.code = cc) {own : String} {index : Nat} (hown : s.vm.findClass own = some m.cls) (hcl : Cond.classLink own index RX0 ∈ wsL_law) (hts : ∀ w ∈ wsL_law, w.before args s = true) (hao : va_AO RX0 s) (hK : zK D T s) (hH : zH D ad N A H0 σ H locs) (hA : ∀ q, H0.size ≤ q → A q) (t0 : Nat) (ht : T[t0]? = some (cA, .object "Stitchpath$Field"))
    {z : Int} {n : Nat} (hz : ¬ zI z < 0) (hn : (zI z).toNatClampNeg = n) (hbytes : n * 4 ≤ 536870912) (hcells : cells + 1 ≤ R.cells) (hslots : slots + n ≤ R.slots) (hdg : decode cc pc = .ok (.anewarray index, 3))
    (kk : ∀ (q : Nat) (ad1 : Nat → Nat) (σ1 : Nat → va_E) (H1 : Heap), (∀ i, i < N → ad1 i = ad i) → ad1 N = q → (∀ i, i < N → σ1 i = σ i) → σ1 N = .inl (cA, n, .inr (.inr (.inr (.inr (fun _ => none))))) → zH D ad1 (N + 1) A H0 σ1 H1 locs → W p l e R s m args below meth c H1 locs (cells + 1) (slots + n) Q (F0 m (pc + 3) ls (.ref q :: rest))) : W p l e R s m args below meth c H locs cells slots Q (F0 m pc ls (.int (zI z) :: rest)) := by
  refine va_newq (D := D) hx hb hown (hts _ hcl) hao hK.1 hH.1 hH.2.1 hH.2.2 hA hz hn hbytes hcells hslots hdg (fun q cB H1 hK1 hP hD hS => ?_)
  obtain ⟨kA, comp, -, -, -, f4⟩ := (hK1.2 T.length (cB, .object RX0) (by simp)).2
  obtain ⟨kA', comp', -, -, -, g4⟩ := (hK.1.2 t0 _ ht).2
  have e1 : some cB = some cA := f4.symm.trans g4
  cases e1
  exact kk q (va_up ad N q) (va_up σ N (.inl (cA, n, .inr (.inr (.inr (.inr (fun _ => none))))))) H1 (fun i hi => if_neg (by omega)) (if_pos rfl) (fun i hi => if_neg (by omega)) (if_pos rfl) ⟨by rw [zl_push]; exact hP, by rw [zl_push]; exact hD, hS⟩
theorem znew (hx : p.tables.exec = Jvm.exec) (hb : c.code = cc) {own C : String} {U : u_T} {n ci index : Nat} (hts : ∀ w ∈ wsL_law, w.before args s = true) (hin : ∀ w ∈ u_ws C U n, w ∈ wsL_law) (ty : Nat → FieldType) (hty : ∀ k, k < n → parseFieldDescriptor (U k).2.2.1 = some (ty k)) (hown : s.vm.findClass own = some m.cls) (hcl : Cond.classLink own index C ∈ wsL_law) (hinst : Cond.instantiable C n ∈ wsL_law) (hini : Cond.initialized C ∈ wsL_law)
    (hK : zK D T s) (hH : zH D ad N A H0 σ H locs) (hA : ∀ q, H0.size ≤ q → A q) (hc : vwCl[ci]? = some (C, U, n)) {fs : List Value} (hfs : ∀ j, j < n → defaultValue (ty j) = vp_V fs j) (hcells : cells + 1 ≤ R.cells) (hslots : slots + n ≤ R.slots) (hdg : decode cc pc = .ok (.new index, 3))
    (kk : ∀ (q : Nat) (ad1 : Nat → Nat) (σ1 : Nat → va_E) (H1 : Heap), (∀ i, i < N → ad1 i = ad i) → ad1 N = q → (∀ i, i < N → σ1 i = σ i) → σ1 N = .inr (ci, fs) → zH D ad1 (N + 1) A H0 σ1 H1 locs → W p l e R s m args below meth c H1 locs (cells + 1) (slots + n) Q (F0 m (pc + 3) ls (.ref q :: rest))) : W p l e R s m args below meth c H locs cells slots Q (F0 m pc ls rest) := by
  refine va_new (D := D) hx hb hts hin ty hty hown (hts _ hcl) (hts _ hinst) (hts _ hini) hK.1 hH.1 hH.2.1 hH.2.2 hA hc hfs hcells hslots hdg (fun q H1 hP hD hS => ?_)
  exact kk q (va_up ad N q) (va_up σ N (.inr (ci, fs))) H1 (fun i hi => if_neg (by omega)) (if_pos rfl) (fun i hi => if_neg (by omega)) (if_pos rfl) ⟨by rw [zl_push]; exact hP, by rw [zl_push]; exact hD, hS⟩
theorem zputF (hx : p.tables.exec = Jvm.exec) (hb : c.code = cc) {own C : String} {U : u_T} {n ci index : Nat} (hin : ∀ w ∈ u_ws C U n, w ∈ wsL_law) (ty0 : Nat → FieldType) (hty : ∀ k, k < n → parseFieldDescriptor (U k).2.2.1 = some (ty0 k)) (hnm : ∀ a, a < n → ∀ b, b < n → a ≠ b → (U a).2.1 ≠ (U b).2.1) (hc : vwCl[ci]? = some (C, U, n)) (j : Nat) (hj : Nat.blt j n = true) (hw : Cond.fieldLink own index (U j).1 (U j).2.1 (U j).2.2.1 ∈ wsL_law) (hfin : (U j).2.2.2 = true) (hin2 : meth.name = "<init>") (hdecl : (U j).1 = own) (hts : ∀ w ∈ wsL_law, w.before args s = true) (hown : s.vm.findClass own = some m.cls) (hK : zK D T s) (hH : zH D ad N A H0 σ H locs) (hk : k < N) {fs : List Value} (hσ : σ k = .inr (ci, fs)) {v : Value} (hn : narrow (ty0 j) v = v) (hfit : fits (ty0 j) v = true) (hl : Nat.blt j fs.length = true) (hdg : decode cc pc = .ok (.putfield index, 3))
    (kk : ∀ (σ1 : Nat → va_E) (H1 : Heap) (locs1 : List Loc), σ1 k = .inr (ci, fs.set j v) → (∀ i, i ≠ k → σ1 i = σ i) → zH D ad N A H0 σ1 H1 locs1 → W p l e R s m args below meth c H1 locs1 cells slots Q (F0 m (pc + 3) ls rest)) : W p l e R s m args below meth c H locs cells slots Q (F0 m pc ls (v :: .ref (ad k) :: rest)) := by
  refine va_putF (D := D) hx hb hts hin ty0 hty hnm hown hK.1 hH.1 hH.2.1 hH.2.2 k (zl_atE hk hσ) hc j (Nat.le_of_ble_eq_true hj) (hts _ hw) (fun _ h9 => h9) hfin hin2 hdecl (hty j (Nat.le_of_ble_eq_true hj)) hn hfit (Nat.le_of_ble_eq_true hl) hdg (fun H1 locs1 hP hD hS => ?_)
  rw [zl_set hk] at hP hD
  exact kk _ H1 locs1 (if_pos rfl) (fun i hi => if_neg hi) ⟨hP, hD, hS⟩
theorem zcI {y : MethodName} {bytes : ByteArray} {maxL nL n index : Nat} {own : String} {rm : Room} {As : List Value} {mc1 ms1 N1 : Nat} {P : (Nat → Nat) → (Nat → va_E) → Prop} (hx : p.tables.exec = Jvm.exec) (hb : c.code = cc) (hml : c.maxLocals = nL) (hown : s.vm.findClass own = some m.cls) (hts : ∀ w ∈ wsL_law, w.before args s = true) (hsz : ls.size = nL) (hK : zK D T s) (hH : zH D ad N A H0 σ H locs) (hA : ∀ q, H0.size ≤ q → A q)
    (hM : Met l y (Cond.code y bytes maxL none :: wsL_law) rm (zPre D ad N T σ H.size (.ref (ad k) :: As)) (zQn D ad N N1 H.size P) mc1 ms1 (zFr ad N H.size)) (hN1 : N ≤ N1)
    (h1 : Cond.methodLink own index y ∈ wsL_law) (h2 : Cond.instanceMethod y ∈ wsL_law) (h4 : Cond.initialized y.cls ∈ wsL_law) (h5 : Cond.code y bytes maxL none ∈ wsL_law) (hy1 : y.name = "<init>")
    (hd : y.cls ≠ "java/lang/invoke/MethodHandle" ∧ y.cls ≠ "java/lang/invoke/VarHandle" ∧ (parseMethodDescriptor y.desc).map (fun d => d.parameters.length) = some n) (hn : As.length = n)
    (hR : rm.cells = mc1 ∧ rm.slots = ms1 ∧ rm.frames + 1 ≤ R.frames ∧ 8 + (maxL + 11) + rm.locals ≤ R.locals) (hcs : cells + mc1 ≤ R.cells ∧ slots + ms1 ≤ R.slots) {st0 : List Value} (hst : st0 = As.reverse ++ .ref (ad k) :: rest) (hrest : (rest.map fun v => v.category).sum ≤ 8) (hdg : decode cc pc = .ok (.invokespecial index, 3))
    (kk : ∀ (ad1 : Nat → Nat) (σ1 : Nat → va_E) (H1 : Heap) (locs1 : List Loc), (∀ i, i < N → ad1 i = ad i) → P ad1 σ1 → zH D ad1 N1 A H0 σ1 H1 locs1 → W p l e R s m args below meth c H1 locs1 (cells + mc1) (slots + ms1) Q (F0 m (pc + 3) ls rest)) : W p l e R s m args below meth c H locs cells slots Q (F0 m pc ls st0) := by
  subst hst
  have hFc : ∀ q, zFr ad N H.size q → A q := fun q h => h.elim (fun ⟨k, hk, e⟩ => e ▸ hH.2.1.2 k _ (zl_at hk)) (fun h => hA q (Nat.le_trans hH.2.2.1 h))
  have cw := cwI (own := own) (index := index) (y := y) (bytes := bytes) (maxL := maxL) (mc := mc1) (ms := ms1) (rm := rm) (R := R) n hts (zk_in (Cond.code y bytes maxL none :: wsL_law) (fun w hw => by
    rcases List.mem_cons.mp hw with rfl | hw <;> assumption)) rfl hR.1 hR.2.1 (hts _ h4) (hts _ h1) (hts _ h2) hy1 hd hR.2.2
  refine va_callv (va_runI (b := ad k) (As := As) (rest := rest) ⟨hx, hb, hml, hown, hts⟩ hM cw ⟨zPre_blind, fun U hU hW => ⟨rfl, by rw [hU], by rw [hU]; exact hH.1, hK.warm hW⟩⟩ rfl hn hsz rfl (lv_room hrest) hdg hcs) hH.2.2 (fun q _ h => hFc q h) hFc (fun u t H1 locs1 ht hvm hw hB hz1 hk1 hS => ?_)
  rw [ht] at hB
  exact kk u.1 u.2 H1 locs1 hw.1 hw.2 ⟨hB.1, hB.2.weaken (fun _ _ _ h => hFc _ h), hS⟩
theorem zcIn {y : MethodName} {bytes : ByteArray} {maxL nL n index : Nat} {own : String} {rm : Room} {As : List Value} {mc1 ms1 N1 : Nat} {P : (Nat → Nat) → (Nat → va_E) → Prop} (hx : p.tables.exec = Jvm.exec) (hb : c.code = cc) (hml : c.maxLocals = nL) (hown : s.vm.findClass own = some m.cls) (hts : ∀ w ∈ wsL_law, w.before args s = true) (hsz : ls.size = nL) (hK : zK D T s) (hH : zH D ad N A H0 σ H locs) (hA : ∀ q, H0.size ≤ q → A q)
    (hM : Met l y (Cond.code y bytes maxL none :: wsL_law) rm (zPre D ad N T σ H.size (.ref (ad k) :: As)) (zQn D ad N N1 H.size P) mc1 ms1 (zFr ad N H.size)) (hN1 : N ≤ N1)
    {host : String} (h1 : (own, index, y, host) ∈ zNest) (h2 : Cond.instanceMethod y ∈ wsL_law) (h4 : Cond.initialized y.cls ∈ wsL_law) (h5 : Cond.code y bytes maxL none ∈ wsL_law) (hy1 : y.name = "<init>")
    (hd : y.cls ≠ "java/lang/invoke/MethodHandle" ∧ y.cls ≠ "java/lang/invoke/VarHandle" ∧ (parseMethodDescriptor y.desc).map (fun d => d.parameters.length) = some n) (hn : As.length = n)
    (hR : rm.cells = mc1 ∧ rm.slots = ms1 ∧ rm.frames + 1 ≤ R.frames ∧ 8 + (maxL + 11) + rm.locals ≤ R.locals) (hcs : cells + mc1 ≤ R.cells ∧ slots + ms1 ≤ R.slots) {st0 : List Value} (hst : st0 = As.reverse ++ .ref (ad k) :: rest) (hrest : (rest.map fun v => v.category).sum ≤ 8) (hdg : decode cc pc = .ok (.invokespecial index, 3))
    (kk : ∀ (ad1 : Nat → Nat) (σ1 : Nat → va_E) (H1 : Heap) (locs1 : List Loc), (∀ i, i < N → ad1 i = ad i) → P ad1 σ1 → zH D ad1 N1 A H0 σ1 H1 locs1 → W p l e R s m args below meth c H1 locs1 (cells + mc1) (slots + ms1) Q (F0 m (pc + 3) ls rest)) : W p l e R s m args below meth c H locs cells slots Q (F0 m pc ls st0) := by
  subst hst
  have hFc : ∀ q, zFr ad N H.size q → A q := fun q h => h.elim (fun ⟨k, hk, e⟩ => e ▸ hH.2.1.2 k _ (zl_at hk)) (fun h => hA q (Nat.le_trans hH.2.2.1 h))
  have cw : va_CN R s args own index y host bytes maxL none (Cond.code y bytes maxL none :: wsL_law) rm mc1 ms1 n ∧ y.name = "<init>" ∧ (Cond.instanceMethod y).before args s = true := ⟨va_cnB n hts (zk_in _ (fun w hw => by
    rcases List.mem_cons.mp hw with rfl | hw <;> assumption)) rfl hR.1 hR.2.1 (hK.2 _ h1) (hts _ h4) hd hR.2.2, hy1, hts _ h2⟩
  refine va_callv (va_runIN (b := ad k) (As := As) (rest := rest) ⟨hx, hb, hml, hown, hts⟩ hM cw ⟨zPre_blind, fun U hU hW => ⟨rfl, by rw [hU], by rw [hU]; exact hH.1, hK.warm hW⟩⟩ rfl hn hsz rfl (lv_room hrest) hdg hcs) hH.2.2 (fun q _ h => hFc q h) hFc (fun u t H1 locs1 ht hvm hw hB hz1 hk1 hS => ?_)
  rw [ht] at hB
  exact kk u.1 u.2 H1 locs1 hw.1 hw.2 ⟨hB.1, hB.2.weaken (fun _ _ _ h => hFc _ h), hS⟩
theorem zretn (hx : p.tables.exec = Jvm.exec) (hb : c.code = cc) (hr : meth.sig.returnType = none) (hlocks : meth.locks = false) {ad0 : Nat → Nat} {N0 : Nat} {P : (Nat → Nat) → (Nat → va_E) → Prop} (hQ : Q = MQ below (zQn D ad0 N0 N s.heap.size P) args s cells slots (zFr ad0 N0 s.heap.size)) (hH : zH D ad N (zFr ad0 N0 s.heap.size) s.heap σ H locs) (hp : (∀ i, i < N0 → ad i = ad0 i) ∧ P ad σ) (hdg : decode cc pc = .ok (.return_, 1)) : W p l e R s m args below meth c H locs cells slots Q (F0 m pc ls []) := by
  subst hQ
  exact W.vret hx hb hr (fun t ht hW => ⟨⟨(ad, σ), rfl, hp, by show va_P D vwCl (zl ad N σ) t.heap ∧ va_D _ (zl ad N σ); rw [ht]; exact ⟨hH.1, hH.2.1⟩⟩, hH.2.2.F ht⟩) hH.2.2.2.2 hdg hlocks
end ZI
/-- a constructor's entry -/
theorem zMetI {l : Launch} {D : va_G} {ad : Nat → Nat} {N : Nat} {T : List (ClassId × FieldType)} {σ : Nat → va_E} {sz : Nat} {av : List Value} {y : MethodName} {cc : ByteArray} {maxL : Nat} {ret : Option FieldType} {rm : Room} {Qc : Array Value → State → Outcome → State → Prop} {mc ms : Nat}
    (hI : ∀ i j, i < N → j < N → ad i = ad j → i = j) (hy : plainName y.cls = true) (hyn : y.name = "<init>") (hlen : (lg_sl av).length ≤ maxL)
    (body : ∀ (p : Program) (e : Env) (s : State) (m : MethodId) (args : Array Value) (below : List Frame) (meth : Method) (c : Code) (Q : State → Prop), p.tables.exec = Jvm.exec → c.code = cc → meth.sig.returnType = ret → meth.locks = false → meth.name = "<init>" → c.maxLocals = maxL → s.vm.findClass y.cls = some m.cls → (∀ w ∈ wsL_law, w.before args s = true) → zK D T s → s.heap.size = sz → Q = MQ below Qc args s mc ms (zFr ad N sz) → zH D ad N (zFr ad N s.heap.size) s.heap σ s.heap [] → (∀ q, s.heap.size ≤ q → zFr ad N s.heap.size q) → ∀ ls : Array Slot, lv_has ls maxL (lv_args 0 av) →
      W p l e rm s m args below meth c s.heap [] 0 0 Q (F0 m 0 ls [])) :
    Met l y (Cond.code y cc maxL ret :: wsL_law) rm (zPre D ad N T σ sz av) Qc mc ms (zFr ad N sz) := by
  refine Met.ofW (cc := cc) (maxL := maxL) (ret := ret) (ws' := wsL_law) hy rfl ?_
  intro p e s m args below meth c s₁ B hml hv
  obtain ⟨rfl, hsz, hP, hK⟩ := hv
  have hts := atoms_spec (ws := Cond.code y cc maxL ret :: wsL_law) B.pre
  have hown : s.vm.findClass y.cls = some m.cls := findClass_of_methodNamed B.named
  have hname : meth.name = "<init>" := (name_of_methodNamed B.named B.method).1.trans hyn
  have hl := lv_entry av (n := maxL) hlen
  rw [lg_entry_eq]
  refine body p e s m _ below meth c _ B.exec B.bytes B.returns B.notSynchronized hname hml hown (fun w hw => hts w (List.mem_cons_of_mem _ hw)) hK hsz rfl ⟨hP, ⟨fun i j p q hi hj he => ?_, fun k q hk => ?_⟩, va_S.rf⟩ (fun q h => Or.inr h) _ hl
  · by_cases h1 : i < N
    · by_cases h2 : j < N
      · rw [zl_at h1] at hi
        rw [zl_at h2] at hj
        cases hi; cases hj
        exact hI i j h1 h2 he
      · rw [zl_none h2] at hj; cases hj
    · rw [zl_none h1] at hi; cases hi
  · by_cases h1 : k < N
    · rw [zl_at h1] at hk
      cases hk
      exact Or.inl ⟨k, h1, rfl⟩
    · rw [zl_none h1] at hk; cases hk
def zPreA (D : va_G) (ad : Nat → Nat) (N : Nat) (T : List (ClassId × FieldType)) (σ : Nat → va_E) (sz : Nat) (av : List Value) : Array Value → State → Prop := va_Pc av (fun U => U.heap.size = sz ∧ va_P D vwCl (zl ad N σ) U.heap ∧ zK D T U ∧ va_AO RX0 U)
theorem zPreA_blind {D : va_G} {ad : Nat → Nat} {N : Nat} {T : List (ClassId × FieldType)} {σ : Nat → va_E} {sz : Nat} {av : List Value} : FrameBlind (zPreA D ad N T σ sz av) := fun a U g mk q => by
  obtain ⟨q0, q1, qP, qK, qX⟩ := q
  have hW : U.vm.Alike (U.calling g mk a).vm := Vm.Alike.refl U.vm
  exact ⟨q0, q1, qP, ⟨va_K.moved (u := U) (U := U.calling g mk a) hW qK.1, qK.2.same (U := U.calling g mk a) rfl⟩, va_AO.moved (u := U) (U := U.calling g mk a) hW qX⟩
/-- a constructor's entry -/
theorem zMetA {l : Launch} {D : va_G} {ad : Nat → Nat} {N : Nat} {T : List (ClassId × FieldType)} {σ : Nat → va_E} {sz : Nat} {av : List Value} {y : MethodName} {cc : ByteArray} {maxL : Nat} {ret : Option FieldType} {rm : Room} {Qc : Array Value → State → Outcome → State → Prop} {mc ms : Nat}
    (hI : ∀ i j, i < N → j < N → ad i = ad j → i = j) (hy : plainName y.cls = true) (hyn : y.name = "<init>") (hlen : (lg_sl av).length ≤ maxL)
    (body : ∀ (p : Program) (e : Env) (s : State) (m : MethodId) (args : Array Value) (below : List Frame) (meth : Method) (c : Code) (Q : State → Prop), p.tables.exec = Jvm.exec → c.code = cc → meth.sig.returnType = ret → meth.locks = false → meth.name = "<init>" → c.maxLocals = maxL → s.vm.findClass y.cls = some m.cls → (∀ w ∈ wsL_law, w.before args s = true) → zK D T s → va_AO RX0 s → s.heap.size = sz → Q = MQ below Qc args s mc ms (zFr ad N sz) → zH D ad N (zFr ad N s.heap.size) s.heap σ s.heap [] → (∀ q, s.heap.size ≤ q → zFr ad N s.heap.size q) → ∀ ls : Array Slot, lv_has ls maxL (lv_args 0 av) →
      W p l e rm s m args below meth c s.heap [] 0 0 Q (F0 m 0 ls [])) :
    Met l y (Cond.code y cc maxL ret :: wsL_law) rm (zPreA D ad N T σ sz av) Qc mc ms (zFr ad N sz) := by
  refine Met.ofW (cc := cc) (maxL := maxL) (ret := ret) (ws' := wsL_law) hy rfl ?_
  intro p e s m args below meth c s₁ B hml hv
  obtain ⟨rfl, hsz, hP, hK, hao⟩ := hv
  have hts := atoms_spec (ws := Cond.code y cc maxL ret :: wsL_law) B.pre
  have hown : s.vm.findClass y.cls = some m.cls := findClass_of_methodNamed B.named
  have hname : meth.name = "<init>" := (name_of_methodNamed B.named B.method).1.trans hyn
  have hl := lv_entry av (n := maxL) hlen
  rw [lg_entry_eq]
  refine body p e s m _ below meth c _ B.exec B.bytes B.returns B.notSynchronized hname hml hown (fun w hw => hts w (List.mem_cons_of_mem _ hw)) hK hao hsz rfl ⟨hP, ⟨fun i j p q hi hj he => ?_, fun k q hk => ?_⟩, va_S.rf⟩ (fun q h => Or.inr h) _ hl
  · by_cases h1 : i < N
    · by_cases h2 : j < N
      · rw [zl_at h1] at hi
        rw [zl_at h2] at hj
        cases hi; cases hj
        exact hI i j h1 h2 he
      · rw [zl_none h2] at hj; cases hj
    · rw [zl_none h1] at hi; cases hi
  · by_cases h1 : k < N
    · rw [zl_at h1] at hk
      cases hk
      exact Or.inl ⟨k, h1, rfl⟩
    · rw [zl_none h1] at hk; cases hk
abbrev rmX4_init : Room := { frames := 1, cells := 2, slots := 4156, locals := 20 }
theorem hd_X4_init : yX4_init.cls ≠ "java/lang/invoke/MethodHandle" ∧ yX4_init.cls ≠ "java/lang/invoke/VarHandle" ∧ (parseMethodDescriptor yX4_init.desc).map (fun d => d.parameters.length) = some 0 := by decide +kernel
set_option maxHeartbeats 4000000 in
set_option maxRecDepth 100000 in
theorem c_X4_init {l : Launch} {D : va_G} {cI cZ cF cL cD : ClassId} {ad : Nat → Nat} {o : Nat} (hI : ∀ i j, i < (o + 5) → j < (o + 5) → ad i = ad j → i = j) {σ0 : Nat → va_E} {sz : Nat} (h_4 : σ0 (o + 4) = .inr (4, [.null, .null, .int 0])) :
    Met l yX4_init (Cond.code yX4_init cX4_init 1 none :: wsL_law) rmX4_init (zPre D ad (o + 5) (zT cI cZ cF cL cD) σ0 sz [.ref (ad (o + 4))]) (zQn D ad (o + 5) (o + 7) sz (fun adx σx => σx (o + 4) = oC_pt adx o 0 ∧ σx (o + 5) = .inl (cI, 2078, .inl (zA fun _ => 0)) ∧ σx (o + 6) = .inl (cI, 2078, .inl (zA fun _ => 0)) ∧ ∀ i, i < (o + 4) → σx i = σ0 i)) 2 4156 (zFr ad (o + 5) sz) := by
  refine zMetI hI (by decide) rfl (Nat.le_of_ble_eq_true rfl) ?_
  intro p e s m args below meth c Q hx hb hr hlocks hname hml hown hts hK hsz hQ hH hA ls hl
  subst hsz
  have hl : lv_has ls 1 [(0, .ref (ad (o + 4)))] := hl
  have hbs : ∀ i, i < (o + 4) → σ0 i = σ0 i := fun _ _ => rfl
  have hba : ∀ i, i < (o + 5) → ad i = ad i := fun _ _ => rfl
  obtain ⟨h0, g4⟩ : ∃ q, ad (o + 4) = q := ⟨_, rfl⟩
  rw [g4] at hl
  refine lv_aload_n hx hb dX4_init_0 rfl (lv_at hl 0 rfl) ?_
  refine W.objInit hx hb hown (hts _ zk_t3_71) (hts _ zk_t1_21) (hts _ zk_t1_22) rfl (by rw [hml]; exact hl.1) rfl dX4_init_1 (Nat.le_of_ble_eq_true rfl) (Nat.le_of_ble_eq_true rfl) ?_
  refine W.eq (g2 := F0 m 4 ls []) rfl ?_
  refine lv_aload_n hx hb dX4_init_4 rfl (lv_at hl 0 rfl) ?_
  refine lv_sipush (v := zI 2078) hx hb dX4_init_5 (by decide +kernel) ?_
  refine znewa (atype := .int) hx hb zk_t1_73 hts (ty := .int) rfl (fun _ h => h) hK hH hA 0 rfl (a0 := (2078, .inl (zA fun _ => 0))) (fun _ => rfl) (by decide +kernel) (n := 2078) (by decide +kernel) (by decide) (Nat.le_of_ble_eq_true rfl) (Nat.le_of_ble_eq_true rfl) dX4_init_8 (fun q1 ad1 σ1 H1 ha1 gq hs1 h_5 hH => ?_)
  have g5 : ad1 (o + 5) = q1 := gq
  have g4 := (ha1 (o + 4) (by omega)).trans g4
  have h_4 := (hs1 (o + 4) (by omega)).trans h_4
  have hbs : ∀ i, i < (o + 4) → σ1 i = σ0 i := fun i hi => (hs1 i (by omega)).trans (hbs i hi)
  have hba : ∀ i, i < (o + 5) → ad1 i = ad i := fun i hi => (ha1 i (by omega)).trans (hba i hi)
  rw [← g4]
  refine zputF hx hb inlX4 tyX4 tyX4_ok nmX4 rfl 0 rfl zk_t3_72 rfl hname rfl hts hown hK hH (show (o + 4) < (o + 6) by omega) h_4 rfl rfl rfl dX4_init_10 (fun σ2 H2 l2 h_4 hs2 hH => ?_)
  have h_4 : σ2 (o + 4) = .inr (4, [.ref q1, .null, .int 0]) := h_4
  have h_5 := (hs2 (o + 5) (by omega)).trans h_5
  have hbs : ∀ i, i < (o + 4) → σ2 i = σ0 i := fun i hi => (hs2 i (by omega)).trans (hbs i hi)
  refine lv_aload_n hx hb dX4_init_13 rfl (lv_at hl 0 rfl) ?_
  refine lv_sipush (v := zI 2078) hx hb dX4_init_14 (by decide +kernel) ?_
  refine znewa (atype := .int) hx hb zk_t1_73 hts (ty := .int) rfl (fun _ h => h) hK hH hA 0 rfl (a0 := (2078, .inl (zA fun _ => 0))) (fun _ => rfl) (by decide +kernel) (n := 2078) (by decide +kernel) (by decide) (Nat.le_of_ble_eq_true rfl) (Nat.le_of_ble_eq_true rfl) dX4_init_17 (fun q3 ad3 σ3 H3 ha3 gq hs3 h_6 hH => ?_)
  have g6 : ad3 (o + 6) = q3 := gq
  have g4 := (ha3 (o + 4) (by omega)).trans g4
  have g5 := (ha3 (o + 5) (by omega)).trans g5
  have h_4 := (hs3 (o + 4) (by omega)).trans h_4
  have h_5 := (hs3 (o + 5) (by omega)).trans h_5
  have hbs : ∀ i, i < (o + 4) → σ3 i = σ0 i := fun i hi => (hs3 i (by omega)).trans (hbs i hi)
  have hba : ∀ i, i < (o + 5) → ad3 i = ad i := fun i hi => (ha3 i (by omega)).trans (hba i hi)
  rw [← g4]
  refine zputF hx hb inlX4 tyX4 tyX4_ok nmX4 rfl 1 rfl zk_t3_75 rfl hname rfl hts hown hK hH (show (o + 4) < (o + 7) by omega) h_4 rfl rfl rfl dX4_init_19 (fun σ4 H4 l4 h_4 hs4 hH => ?_)
  have h_4 : σ4 (o + 4) = .inr (4, [.ref q1, .ref q3, .int 0]) := h_4
  have h_5 := (hs4 (o + 5) (by omega)).trans h_5
  have h_6 := (hs4 (o + 6) (by omega)).trans h_6
  have hbs : ∀ i, i < (o + 4) → σ4 i = σ0 i := fun i hi => (hs4 i (by omega)).trans (hbs i hi)
  exact zretn hx hb hr hlocks hQ hH ⟨hba, (by (rw [h_4, ← g5, ← g6]) <;> rfl), h_5, h_6, hbs⟩ dX4_init_22
abbrev rmX0_init : Room := { frames := 2, cells := 6, slots := 4183, locals := 40 }
theorem hd_X0_init : yX0_init.cls ≠ "java/lang/invoke/MethodHandle" ∧ yX0_init.cls ≠ "java/lang/invoke/VarHandle" ∧ (parseMethodDescriptor yX0_init.desc).map (fun d => d.parameters.length) = some 3 := by decide +kernel
set_option maxHeartbeats 4000000 in
set_option maxRecDepth 100000 in
theorem c_X0_init {l : Launch} {D : va_G} {cI cZ cF cL cD : ClassId} {ad : Nat → Nat} {o : Nat} (hI : ∀ i j, i < (o + 1) → j < (o + 1) → ad i = ad j → i = j) {σ0 : Nat → va_E} {sz : Nat} {p1 p2 p3 : Int} (h_0 : σ0 o = .inr (0, [.int 0, .int 0, .int 0, .null, .null, .null, .null, .int 0, .int 0, .int 0, .int 0, .int 0, .int 0, .int 0, .int 0])) (hp3 : p3 = 0 ∨ p3 = 1) :
    Met l yX0_init (Cond.code yX0_init cX0_init 4 none :: wsL_law) rmX0_init (zPre D ad (o + 1) (zT cI cZ cF cL cD) σ0 sz [.ref (ad o), .int (zI p1), .int (zI p2), .int (zI p3)]) (zQn D ad (o + 1) (o + 7) sz (fun adx σx => σx o = oC_fd adx o p1 p2 p3 0 0 2 6 0 0 0 0 ∧ σx (o + 1) = .inl (cI, 8, .inl (zA fun _ => 0)) ∧ σx (o + 2) = .inl (cI, 8, .inl (zA fun _ => 0)) ∧ σx (o + 3) = .inl (cI, 8, .inl (zA fun _ => 0)) ∧ σx (o + 4) = oC_pt adx o 0 ∧ σx (o + 5) = .inl (cI, 2078, .inl (zA fun _ => 0)) ∧ σx (o + 6) = .inl (cI, 2078, .inl (zA fun _ => 0)) ∧ ∀ i, i < o → σx i = σ0 i)) 6 4183 (zFr ad (o + 1) sz) := by
  refine zMetI hI (by decide) rfl (Nat.le_of_ble_eq_true rfl) ?_
  intro p e s m args below meth c Q hx hb hr hlocks hname hml hown hts hK hsz hQ hH hA ls hl
  subst hsz
  have hl : lv_has ls 4 [(0, .ref (ad o)), (1, .int (zI p1)), (2, .int (zI p2)), (3, .int (zI p3))] := hl
  have hbs : ∀ i, i < o → σ0 i = σ0 i := fun _ _ => rfl
  have hba : ∀ i, i < (o + 1) → ad i = ad i := fun _ _ => rfl
  obtain ⟨h0, g0⟩ : ∃ q, ad o = q := ⟨_, rfl⟩
  rw [g0] at hl
  refine lv_aload_n hx hb dX0_init_0 rfl (lv_at hl 0 rfl) ?_
  refine W.objInit hx hb hown (hts _ zk_t3_65) (hts _ zk_t1_21) (hts _ zk_t1_22) rfl (by rw [hml]; exact hl.1) rfl dX0_init_1 (Nat.le_of_ble_eq_true rfl) (Nat.le_of_ble_eq_true rfl) ?_
  refine W.eq (g2 := F0 m 4 ls []) rfl ?_
  refine lv_aload_n hx hb dX0_init_4 rfl (lv_at hl 0 rfl) ?_
  refine lv_bipush (v := zI 8) hx hb dX0_init_5 (by decide +kernel) ?_
  refine znewa (atype := .int) hx hb zk_t1_73 hts (ty := .int) rfl (fun _ h => h) hK hH hA 0 rfl (a0 := (8, .inl (zA fun _ => 0))) (fun _ => rfl) (by decide +kernel) (n := 8) (by decide +kernel) (by decide) (Nat.le_of_ble_eq_true rfl) (Nat.le_of_ble_eq_true rfl) dX0_init_7 (fun q1 ad1 σ1 H1 ha1 gq hs1 h_1 hH => ?_)
  have g1 : ad1 (o + 1) = q1 := gq
  have g0 := (ha1 o (by omega)).trans g0
  have h_0 := (hs1 o (by omega)).trans h_0
  have hbs : ∀ i, i < o → σ1 i = σ0 i := fun i hi => (hs1 i (by omega)).trans (hbs i hi)
  have hba : ∀ i, i < (o + 1) → ad1 i = ad i := fun i hi => (ha1 i (by omega)).trans (hba i hi)
  rw [← g0]
  refine zputF hx hb inlX0 tyX0 tyX0_ok nmX0 rfl 3 rfl zk_t3_97 rfl hname rfl hts hown hK hH (show o < (o + 2) by omega) h_0 rfl rfl rfl dX0_init_9 (fun σ2 H2 l2 h_0 hs2 hH => ?_)
  have h_0 : σ2 o = .inr (0, [.int 0, .int 0, .int 0, .ref q1, .null, .null, .null, .int 0, .int 0, .int 0, .int 0, .int 0, .int 0, .int 0, .int 0]) := h_0
  have h_1 := (hs2 (o + 1) (by omega)).trans h_1
  have hbs : ∀ i, i < o → σ2 i = σ0 i := fun i hi => (hs2 i (by omega)).trans (hbs i hi)
  refine lv_aload_n hx hb dX0_init_12 rfl (lv_at hl 0 rfl) ?_
  refine lv_bipush (v := zI 8) hx hb dX0_init_13 (by decide +kernel) ?_
  refine znewa (atype := .int) hx hb zk_t1_73 hts (ty := .int) rfl (fun _ h => h) hK hH hA 0 rfl (a0 := (8, .inl (zA fun _ => 0))) (fun _ => rfl) (by decide +kernel) (n := 8) (by decide +kernel) (by decide) (Nat.le_of_ble_eq_true rfl) (Nat.le_of_ble_eq_true rfl) dX0_init_15 (fun q3 ad3 σ3 H3 ha3 gq hs3 h_2 hH => ?_)
  have g2 : ad3 (o + 2) = q3 := gq
  have g0 := (ha3 o (by omega)).trans g0
  have g1 := (ha3 (o + 1) (by omega)).trans g1
  have h_0 := (hs3 o (by omega)).trans h_0
  have h_1 := (hs3 (o + 1) (by omega)).trans h_1
  have hbs : ∀ i, i < o → σ3 i = σ0 i := fun i hi => (hs3 i (by omega)).trans (hbs i hi)
  have hba : ∀ i, i < (o + 1) → ad3 i = ad i := fun i hi => (ha3 i (by omega)).trans (hba i hi)
  rw [← g0]
  refine zputF hx hb inlX0 tyX0 tyX0_ok nmX0 rfl 4 rfl zk_t3_98 rfl hname rfl hts hown hK hH (show o < (o + 3) by omega) h_0 rfl rfl rfl dX0_init_17 (fun σ4 H4 l4 h_0 hs4 hH => ?_)
  have h_0 : σ4 o = .inr (0, [.int 0, .int 0, .int 0, .ref q1, .ref q3, .null, .null, .int 0, .int 0, .int 0, .int 0, .int 0, .int 0, .int 0, .int 0]) := h_0
  have h_1 := (hs4 (o + 1) (by omega)).trans h_1
  have h_2 := (hs4 (o + 2) (by omega)).trans h_2
  have hbs : ∀ i, i < o → σ4 i = σ0 i := fun i hi => (hs4 i (by omega)).trans (hbs i hi)
  refine lv_aload_n hx hb dX0_init_20 rfl (lv_at hl 0 rfl) ?_
  refine lv_bipush (v := zI 8) hx hb dX0_init_21 (by decide +kernel) ?_
  refine znewa (atype := .int) hx hb zk_t1_73 hts (ty := .int) rfl (fun _ h => h) hK hH hA 0 rfl (a0 := (8, .inl (zA fun _ => 0))) (fun _ => rfl) (by decide +kernel) (n := 8) (by decide +kernel) (by decide) (Nat.le_of_ble_eq_true rfl) (Nat.le_of_ble_eq_true rfl) dX0_init_23 (fun q5 ad5 σ5 H5 ha5 gq hs5 h_3 hH => ?_)
  have g3 : ad5 (o + 3) = q5 := gq
  have g0 := (ha5 o (by omega)).trans g0
  have g1 := (ha5 (o + 1) (by omega)).trans g1
  have g2 := (ha5 (o + 2) (by omega)).trans g2
  have h_0 := (hs5 o (by omega)).trans h_0
  have h_1 := (hs5 (o + 1) (by omega)).trans h_1
  have h_2 := (hs5 (o + 2) (by omega)).trans h_2
  have hbs : ∀ i, i < o → σ5 i = σ0 i := fun i hi => (hs5 i (by omega)).trans (hbs i hi)
  have hba : ∀ i, i < (o + 1) → ad5 i = ad i := fun i hi => (ha5 i (by omega)).trans (hba i hi)
  rw [← g0]
  refine zputF hx hb inlX0 tyX0 tyX0_ok nmX0 rfl 5 rfl zk_t3_99 rfl hname rfl hts hown hK hH (show o < (o + 4) by omega) h_0 rfl rfl rfl dX0_init_25 (fun σ6 H6 l6 h_0 hs6 hH => ?_)
  have h_0 : σ6 o = .inr (0, [.int 0, .int 0, .int 0, .ref q1, .ref q3, .ref q5, .null, .int 0, .int 0, .int 0, .int 0, .int 0, .int 0, .int 0, .int 0]) := h_0
  have h_1 := (hs6 (o + 1) (by omega)).trans h_1
  have h_2 := (hs6 (o + 2) (by omega)).trans h_2
  have h_3 := (hs6 (o + 3) (by omega)).trans h_3
  have hbs : ∀ i, i < o → σ6 i = σ0 i := fun i hi => (hs6 i (by omega)).trans (hbs i hi)
  refine lv_aload_n hx hb dX0_init_28 rfl (lv_at hl 0 rfl) ?_
  refine znew hx hb hts inlX4 tyX4 tyX4_ok hown zk_t3_66 zk_t3_67 zk_t1_14 hK hH hA (ci := 4) rfl (fs := [.null, .null, .int 0]) (fun j hj => match j, hj with | 0, _ => rfl | 1, _ => rfl | 2, _ => rfl | q + 3, h => absurd h (by omega)) (Nat.le_of_ble_eq_true rfl) (Nat.le_of_ble_eq_true rfl) dX0_init_29 (fun q7 ad7 σ7 H7 ha7 gq hs7 h_4 hH => ?_)
  have g4 : ad7 (o + 4) = q7 := gq
  have g0 := (ha7 o (by omega)).trans g0
  have g1 := (ha7 (o + 1) (by omega)).trans g1
  have g2 := (ha7 (o + 2) (by omega)).trans g2
  have g3 := (ha7 (o + 3) (by omega)).trans g3
  have h_0 := (hs7 o (by omega)).trans h_0
  have h_1 := (hs7 (o + 1) (by omega)).trans h_1
  have h_2 := (hs7 (o + 2) (by omega)).trans h_2
  have h_3 := (hs7 (o + 3) (by omega)).trans h_3
  have hbs : ∀ i, i < o → σ7 i = σ0 i := fun i hi => (hs7 i (by omega)).trans (hbs i hi)
  have hba : ∀ i, i < (o + 1) → ad7 i = ad i := fun i hi => (ha7 i (by omega)).trans (hba i hi)
  refine lv_dup hx hb dX0_init_32 rfl ?_
  rw [← g4]
  refine zcIn (k := (o + 4)) (As := []) (rest := [.ref (ad7 (o + 4)), .ref h0]) hx hb hml hown hts hl.1 hK hH hA (c_X4_init (zD_inj hH.2.1) (o := o) h_4) (by omega) (host := RX6) (List.mem_of_getElem? (i := 9) rfl) zk_t3_69 zk_t1_14 zk_t3_70 rfl hd_X4_init rfl ⟨rfl, rfl, Nat.le_of_ble_eq_true rfl, Nat.le_of_ble_eq_true rfl⟩ ⟨Nat.le_of_ble_eq_true rfl, Nat.le_of_ble_eq_true rfl⟩ rfl (Nat.le_of_ble_eq_true rfl) dX0_init_33 (fun ad8 σ8 H8 l8 ha8 hp hH => ?_)
  obtain ⟨h_4, h_5, h_6, hs8⟩ := hp
  have g0 := (ha8 o (by omega)).trans g0
  have g1 := (ha8 (o + 1) (by omega)).trans g1
  have g2 := (ha8 (o + 2) (by omega)).trans g2
  have g3 := (ha8 (o + 3) (by omega)).trans g3
  have g4 := (ha8 (o + 4) (by omega)).trans g4
  have h_0 := (hs8 o (by omega)).trans h_0
  have h_1 := (hs8 (o + 1) (by omega)).trans h_1
  have h_2 := (hs8 (o + 2) (by omega)).trans h_2
  have h_3 := (hs8 (o + 3) (by omega)).trans h_3
  have hbs : ∀ i, i < o → σ8 i = σ0 i := fun i hi => (hs8 i (by omega)).trans (hbs i hi)
  have hba : ∀ i, i < (o + 1) → ad8 i = ad i := fun i hi => (ha8 i (by omega)).trans (hba i hi)
  have hn4 : ∀ i, i < (o + 7) → ad8 i = ad8 i := fun _ _ => rfl
  rw [show ad7 (o + 4) = q7 from (ha8 (o + 4) (by omega)).symm.trans g4]
  rw [← g0]
  refine zputF hx hb inlX0 tyX0 tyX0_ok nmX0 rfl 6 rfl zk_t3_100 rfl hname rfl hts hown hK hH (show o < (o + 7) by omega) h_0 rfl rfl rfl dX0_init_36 (fun σ9 H9 l9 h_0 hs9 hH => ?_)
  have h_0 : σ9 o = .inr (0, [.int 0, .int 0, .int 0, .ref q1, .ref q3, .ref q5, .ref q7, .int 0, .int 0, .int 0, .int 0, .int 0, .int 0, .int 0, .int 0]) := h_0
  have h_1 := (hs9 (o + 1) (by omega)).trans h_1
  have h_2 := (hs9 (o + 2) (by omega)).trans h_2
  have h_3 := (hs9 (o + 3) (by omega)).trans h_3
  have h_4 := (hs9 (o + 4) (by omega)).trans h_4
  have h_5 := (hs9 (o + 5) (by omega)).trans h_5
  have h_6 := (hs9 (o + 6) (by omega)).trans h_6
  have hbs : ∀ i, i < o → σ9 i = σ0 i := fun i hi => (hs9 i (by omega)).trans (hbs i hi)
  refine lv_aload_n hx hb dX0_init_39 rfl (lv_at hl 0 rfl) ?_
  refine lv_iconst (v := zI 2) hx hb dX0_init_40 (by decide +kernel) ?_
  rw [← g0]
  refine zput hx hb inlX0 tyX0 tyX0_ok nmX0 rfl 9 rfl zk_t3_106 rfl hts hown hK hH (show o < (o + 7) by omega) h_0 rfl rfl rfl dX0_init_41 (fun σ10 H10 l10 h_0 hs10 hH => ?_)
  have h_0 : σ10 o = .inr (0, [.int 0, .int 0, .int 0, .ref q1, .ref q3, .ref q5, .ref q7, .int 0, .int 0, .int (zI 2), .int 0, .int 0, .int 0, .int 0, .int 0]) := h_0
  have h_1 := (hs10 (o + 1) (by omega)).trans h_1
  have h_2 := (hs10 (o + 2) (by omega)).trans h_2
  have h_3 := (hs10 (o + 3) (by omega)).trans h_3
  have h_4 := (hs10 (o + 4) (by omega)).trans h_4
  have h_5 := (hs10 (o + 5) (by omega)).trans h_5
  have h_6 := (hs10 (o + 6) (by omega)).trans h_6
  have hbs : ∀ i, i < o → σ10 i = σ0 i := fun i hi => (hs10 i (by omega)).trans (hbs i hi)
  refine lv_aload_n hx hb dX0_init_44 rfl (lv_at hl 0 rfl) ?_
  refine lv_bipush (v := zI 6) hx hb dX0_init_45 (by decide +kernel) ?_
  rw [← g0]
  refine zput hx hb inlX0 tyX0 tyX0_ok nmX0 rfl 10 rfl zk_t3_108 rfl hts hown hK hH (show o < (o + 7) by omega) h_0 rfl rfl rfl dX0_init_47 (fun σ11 H11 l11 h_0 hs11 hH => ?_)
  have h_0 : σ11 o = .inr (0, [.int 0, .int 0, .int 0, .ref q1, .ref q3, .ref q5, .ref q7, .int 0, .int 0, .int (zI 2), .int (zI 6), .int 0, .int 0, .int 0, .int 0]) := h_0
  have h_1 := (hs11 (o + 1) (by omega)).trans h_1
  have h_2 := (hs11 (o + 2) (by omega)).trans h_2
  have h_3 := (hs11 (o + 3) (by omega)).trans h_3
  have h_4 := (hs11 (o + 4) (by omega)).trans h_4
  have h_5 := (hs11 (o + 5) (by omega)).trans h_5
  have h_6 := (hs11 (o + 6) (by omega)).trans h_6
  have hbs : ∀ i, i < o → σ11 i = σ0 i := fun i hi => (hs11 i (by omega)).trans (hbs i hi)
  refine lv_aload_n hx hb dX0_init_50 rfl (lv_at hl 0 rfl) ?_
  refine lv_iload_n hx hb dX0_init_51 rfl (lv_at hl 1 rfl) ?_
  rw [← g0]
  refine zputF hx hb inlX0 tyX0 tyX0_ok nmX0 rfl 0 rfl zk_t3_90 rfl hname rfl hts hown hK hH (show o < (o + 7) by omega) h_0 rfl rfl rfl dX0_init_52 (fun σ12 H12 l12 h_0 hs12 hH => ?_)
  have h_0 : σ12 o = .inr (0, [.int (zI p1), .int 0, .int 0, .ref q1, .ref q3, .ref q5, .ref q7, .int 0, .int 0, .int (zI 2), .int (zI 6), .int 0, .int 0, .int 0, .int 0]) := h_0
  have h_1 := (hs12 (o + 1) (by omega)).trans h_1
  have h_2 := (hs12 (o + 2) (by omega)).trans h_2
  have h_3 := (hs12 (o + 3) (by omega)).trans h_3
  have h_4 := (hs12 (o + 4) (by omega)).trans h_4
  have h_5 := (hs12 (o + 5) (by omega)).trans h_5
  have h_6 := (hs12 (o + 6) (by omega)).trans h_6
  have hbs : ∀ i, i < o → σ12 i = σ0 i := fun i hi => (hs12 i (by omega)).trans (hbs i hi)
  refine lv_aload_n hx hb dX0_init_55 rfl (lv_at hl 0 rfl) ?_
  refine lv_iload_n hx hb dX0_init_56 rfl (lv_at hl 2 rfl) ?_
  rw [← g0]
  refine zputF hx hb inlX0 tyX0 tyX0_ok nmX0 rfl 1 rfl zk_t3_93 rfl hname rfl hts hown hK hH (show o < (o + 7) by omega) h_0 rfl rfl rfl dX0_init_57 (fun σ13 H13 l13 h_0 hs13 hH => ?_)
  have h_0 : σ13 o = .inr (0, [.int (zI p1), .int (zI p2), .int 0, .ref q1, .ref q3, .ref q5, .ref q7, .int 0, .int 0, .int (zI 2), .int (zI 6), .int 0, .int 0, .int 0, .int 0]) := h_0
  have h_1 := (hs13 (o + 1) (by omega)).trans h_1
  have h_2 := (hs13 (o + 2) (by omega)).trans h_2
  have h_3 := (hs13 (o + 3) (by omega)).trans h_3
  have h_4 := (hs13 (o + 4) (by omega)).trans h_4
  have h_5 := (hs13 (o + 5) (by omega)).trans h_5
  have h_6 := (hs13 (o + 6) (by omega)).trans h_6
  have hbs : ∀ i, i < o → σ13 i = σ0 i := fun i hi => (hs13 i (by omega)).trans (hbs i hi)
  refine lv_aload_n hx hb dX0_init_60 rfl (lv_at hl 0 rfl) ?_
  refine lv_iload_n hx hb dX0_init_61 rfl (lv_at hl 3 rfl) ?_
  rw [← g0]
  refine zputF hx hb inlX0 tyX0 tyX0_ok nmX0 rfl 2 rfl zk_t3_95 rfl hname rfl hts hown hK hH (show o < (o + 7) by omega) h_0 (z_nar _ hp3) (z_fit _ hp3) rfl dX0_init_62 (fun σ14 H14 l14 h_0 hs14 hH => ?_)
  have h_0 : σ14 o = .inr (0, [.int (zI p1), .int (zI p2), .int (zI p3), .ref q1, .ref q3, .ref q5, .ref q7, .int 0, .int 0, .int (zI 2), .int (zI 6), .int 0, .int 0, .int 0, .int 0]) := h_0
  have h_1 := (hs14 (o + 1) (by omega)).trans h_1
  have h_2 := (hs14 (o + 2) (by omega)).trans h_2
  have h_3 := (hs14 (o + 3) (by omega)).trans h_3
  have h_4 := (hs14 (o + 4) (by omega)).trans h_4
  have h_5 := (hs14 (o + 5) (by omega)).trans h_5
  have h_6 := (hs14 (o + 6) (by omega)).trans h_6
  have hbs : ∀ i, i < o → σ14 i = σ0 i := fun i hi => (hs14 i (by omega)).trans (hbs i hi)
  exact zretn hx hb hr hlocks hQ hH ⟨hba, (by (rw [h_0, ← g1, ← g2, ← g3, ← g4]) <;> rfl), h_1, h_2, h_3, (by (rw [h_4]) <;> simp only [oC_pt, hn4 (o + 5) (by omega), hn4 (o + 6) (by omega)]), h_5, h_6, hbs⟩ dX0_init_65
abbrev rmX3_init : Room := { frames := 1, cells := 6, slots := 66575, locals := 20 }
theorem hd_X3_init : yX3_init.cls ≠ "java/lang/invoke/MethodHandle" ∧ yX3_init.cls ≠ "java/lang/invoke/VarHandle" ∧ (parseMethodDescriptor yX3_init.desc).map (fun d => d.parameters.length) = some 0 := by decide +kernel
set_option maxHeartbeats 4000000 in
set_option maxRecDepth 100000 in
theorem c_X3_init {l : Launch} {D : va_G} {cI cZ cF cL cD : ClassId} {ad : Nat → Nat} (hI : ∀ i j, i < 4 → j < 4 → ad i = ad j → i = j) {σ0 : Nat → va_E} {sz : Nat} (h_3 : σ0 3 = .inr (3, [.null, .null, .null, .null, .null, .null, .int 0, .float 0, .int 0, .int 0, .int 0])) :
    Met l yX3_init (Cond.code yX3_init cX3_init 1 none :: wsL_law) rmX3_init (zPre D ad 4 (zT cI cZ cF cL cD) σ0 sz [.ref (ad 3)]) (zQn D ad 4 10 sz (fun adx σx => σx 3 = oC_pl adx 0 0 0 0 (-1) ∧ σx 4 = .inl (cI, 16641, .inl (zA fun _ => 0)) ∧ σx 5 = .inl (cI, 16641, .inl (zA fun _ => 0)) ∧ σx 6 = .inl (cI, 16641, .inl (zA fun _ => 0)) ∧ σx 7 = .inl (cI, 16641, .inl (zA fun _ => 0)) ∧ σx 8 = .inl (cI, 5, .inl (zA fun _ => 0)) ∧ σx 9 = .inl (cI, 6, .inl (zA fun _ => 0)) ∧ ∀ i, i < 3 → σx i = σ0 i)) 6 66575 (zFr ad 4 sz) := by
  refine zMetI hI (by decide) rfl (Nat.le_of_ble_eq_true rfl) ?_
  intro p e s m args below meth c Q hx hb hr hlocks hname hml hown hts hK hsz hQ hH hA ls hl
  subst hsz
  have hl : lv_has ls 1 [(0, .ref (ad 3))] := hl
  have hbs : ∀ i, i < 3 → σ0 i = σ0 i := fun _ _ => rfl
  have hba : ∀ i, i < 4 → ad i = ad i := fun _ _ => rfl
  obtain ⟨h0, g3⟩ : ∃ q, ad 3 = q := ⟨_, rfl⟩
  rw [g3] at hl
  refine lv_aload_n hx hb dX3_init_0 rfl (lv_at hl 0 rfl) ?_
  refine W.objInit hx hb hown (hts _ zk_t1_30) (hts _ zk_t1_21) (hts _ zk_t1_22) rfl (by rw [hml]; exact hl.1) rfl dX3_init_1 (Nat.le_of_ble_eq_true rfl) (Nat.le_of_ble_eq_true rfl) ?_
  refine W.eq (g2 := F0 m 4 ls []) rfl ?_
  refine lv_aload_n hx hb dX3_init_4 rfl (lv_at hl 0 rfl) ?_
  refine lv_sipush (v := zI 16641) hx hb dX3_init_5 (by decide +kernel) ?_
  refine znewa (atype := .int) hx hb zk_t1_73 hts (ty := .int) rfl (fun _ h => h) hK hH hA 0 rfl (a0 := (16641, .inl (zA fun _ => 0))) (fun _ => rfl) (by decide +kernel) (n := 16641) (by decide +kernel) (by decide) (Nat.le_of_ble_eq_true rfl) (Nat.le_of_ble_eq_true rfl) dX3_init_8 (fun q1 ad1 σ1 H1 ha1 gq hs1 h_4 hH => ?_)
  have g4 : ad1 4 = q1 := gq
  have g3 := (ha1 3 (by decide)).trans g3
  have h_3 := (hs1 3 (by decide)).trans h_3
  have hbs : ∀ i, i < 3 → σ1 i = σ0 i := fun i hi => (hs1 i (by omega)).trans (hbs i hi)
  have hba : ∀ i, i < 4 → ad1 i = ad i := fun i hi => (ha1 i (by omega)).trans (hba i hi)
  rw [← g3]
  refine zputF hx hb inlX3 tyX3 tyX3_ok nmX3 rfl 0 rfl zk_t1_31 rfl hname rfl hts hown hK hH (show 3 < 5 by omega) h_3 rfl rfl rfl dX3_init_10 (fun σ2 H2 l2 h_3 hs2 hH => ?_)
  have h_3 : σ2 3 = .inr (3, [.ref q1, .null, .null, .null, .null, .null, .int 0, .float 0, .int 0, .int 0, .int 0]) := h_3
  have h_4 := (hs2 4 (by decide)).trans h_4
  have hbs : ∀ i, i < 3 → σ2 i = σ0 i := fun i hi => (hs2 i (by omega)).trans (hbs i hi)
  refine lv_aload_n hx hb dX3_init_13 rfl (lv_at hl 0 rfl) ?_
  refine lv_sipush (v := zI 16641) hx hb dX3_init_14 (by decide +kernel) ?_
  refine znewa (atype := .int) hx hb zk_t1_73 hts (ty := .int) rfl (fun _ h => h) hK hH hA 0 rfl (a0 := (16641, .inl (zA fun _ => 0))) (fun _ => rfl) (by decide +kernel) (n := 16641) (by decide +kernel) (by decide) (Nat.le_of_ble_eq_true rfl) (Nat.le_of_ble_eq_true rfl) dX3_init_17 (fun q3 ad3 σ3 H3 ha3 gq hs3 h_5 hH => ?_)
  have g5 : ad3 5 = q3 := gq
  have g3 := (ha3 3 (by decide)).trans g3
  have g4 := (ha3 4 (by decide)).trans g4
  have h_3 := (hs3 3 (by decide)).trans h_3
  have h_4 := (hs3 4 (by decide)).trans h_4
  have hbs : ∀ i, i < 3 → σ3 i = σ0 i := fun i hi => (hs3 i (by omega)).trans (hbs i hi)
  have hba : ∀ i, i < 4 → ad3 i = ad i := fun i hi => (ha3 i (by omega)).trans (hba i hi)
  rw [← g3]
  refine zputF hx hb inlX3 tyX3 tyX3_ok nmX3 rfl 1 rfl zk_t1_32 rfl hname rfl hts hown hK hH (show 3 < 6 by omega) h_3 rfl rfl rfl dX3_init_19 (fun σ4 H4 l4 h_3 hs4 hH => ?_)
  have h_3 : σ4 3 = .inr (3, [.ref q1, .ref q3, .null, .null, .null, .null, .int 0, .float 0, .int 0, .int 0, .int 0]) := h_3
  have h_4 := (hs4 4 (by decide)).trans h_4
  have h_5 := (hs4 5 (by decide)).trans h_5
  have hbs : ∀ i, i < 3 → σ4 i = σ0 i := fun i hi => (hs4 i (by omega)).trans (hbs i hi)
  refine lv_aload_n hx hb dX3_init_22 rfl (lv_at hl 0 rfl) ?_
  refine lv_sipush (v := zI 16641) hx hb dX3_init_23 (by decide +kernel) ?_
  refine znewa (atype := .int) hx hb zk_t1_73 hts (ty := .int) rfl (fun _ h => h) hK hH hA 0 rfl (a0 := (16641, .inl (zA fun _ => 0))) (fun _ => rfl) (by decide +kernel) (n := 16641) (by decide +kernel) (by decide) (Nat.le_of_ble_eq_true rfl) (Nat.le_of_ble_eq_true rfl) dX3_init_26 (fun q5 ad5 σ5 H5 ha5 gq hs5 h_6 hH => ?_)
  have g6 : ad5 6 = q5 := gq
  have g3 := (ha5 3 (by decide)).trans g3
  have g4 := (ha5 4 (by decide)).trans g4
  have g5 := (ha5 5 (by decide)).trans g5
  have h_3 := (hs5 3 (by decide)).trans h_3
  have h_4 := (hs5 4 (by decide)).trans h_4
  have h_5 := (hs5 5 (by decide)).trans h_5
  have hbs : ∀ i, i < 3 → σ5 i = σ0 i := fun i hi => (hs5 i (by omega)).trans (hbs i hi)
  have hba : ∀ i, i < 4 → ad5 i = ad i := fun i hi => (ha5 i (by omega)).trans (hba i hi)
  rw [← g3]
  refine zputF hx hb inlX3 tyX3 tyX3_ok nmX3 rfl 2 rfl zk_t1_33 rfl hname rfl hts hown hK hH (show 3 < 7 by omega) h_3 rfl rfl rfl dX3_init_28 (fun σ6 H6 l6 h_3 hs6 hH => ?_)
  have h_3 : σ6 3 = .inr (3, [.ref q1, .ref q3, .ref q5, .null, .null, .null, .int 0, .float 0, .int 0, .int 0, .int 0]) := h_3
  have h_4 := (hs6 4 (by decide)).trans h_4
  have h_5 := (hs6 5 (by decide)).trans h_5
  have h_6 := (hs6 6 (by decide)).trans h_6
  have hbs : ∀ i, i < 3 → σ6 i = σ0 i := fun i hi => (hs6 i (by omega)).trans (hbs i hi)
  refine lv_aload_n hx hb dX3_init_31 rfl (lv_at hl 0 rfl) ?_
  refine lv_sipush (v := zI 16641) hx hb dX3_init_32 (by decide +kernel) ?_
  refine znewa (atype := .int) hx hb zk_t1_73 hts (ty := .int) rfl (fun _ h => h) hK hH hA 0 rfl (a0 := (16641, .inl (zA fun _ => 0))) (fun _ => rfl) (by decide +kernel) (n := 16641) (by decide +kernel) (by decide) (Nat.le_of_ble_eq_true rfl) (Nat.le_of_ble_eq_true rfl) dX3_init_35 (fun q7 ad7 σ7 H7 ha7 gq hs7 h_7 hH => ?_)
  have g7 : ad7 7 = q7 := gq
  have g3 := (ha7 3 (by decide)).trans g3
  have g4 := (ha7 4 (by decide)).trans g4
  have g5 := (ha7 5 (by decide)).trans g5
  have g6 := (ha7 6 (by decide)).trans g6
  have h_3 := (hs7 3 (by decide)).trans h_3
  have h_4 := (hs7 4 (by decide)).trans h_4
  have h_5 := (hs7 5 (by decide)).trans h_5
  have h_6 := (hs7 6 (by decide)).trans h_6
  have hbs : ∀ i, i < 3 → σ7 i = σ0 i := fun i hi => (hs7 i (by omega)).trans (hbs i hi)
  have hba : ∀ i, i < 4 → ad7 i = ad i := fun i hi => (ha7 i (by omega)).trans (hba i hi)
  rw [← g3]
  refine zputF hx hb inlX3 tyX3 tyX3_ok nmX3 rfl 3 rfl zk_t1_34 rfl hname rfl hts hown hK hH (show 3 < 8 by omega) h_3 rfl rfl rfl dX3_init_37 (fun σ8 H8 l8 h_3 hs8 hH => ?_)
  have h_3 : σ8 3 = .inr (3, [.ref q1, .ref q3, .ref q5, .ref q7, .null, .null, .int 0, .float 0, .int 0, .int 0, .int 0]) := h_3
  have h_4 := (hs8 4 (by decide)).trans h_4
  have h_5 := (hs8 5 (by decide)).trans h_5
  have h_6 := (hs8 6 (by decide)).trans h_6
  have h_7 := (hs8 7 (by decide)).trans h_7
  have hbs : ∀ i, i < 3 → σ8 i = σ0 i := fun i hi => (hs8 i (by omega)).trans (hbs i hi)
  refine lv_aload_n hx hb dX3_init_40 rfl (lv_at hl 0 rfl) ?_
  refine lv_iconst (v := zI 5) hx hb dX3_init_41 (by decide +kernel) ?_
  refine znewa (atype := .int) hx hb zk_t1_73 hts (ty := .int) rfl (fun _ h => h) hK hH hA 0 rfl (a0 := (5, .inl (zA fun _ => 0))) (fun _ => rfl) (by decide +kernel) (n := 5) (by decide +kernel) (by decide) (Nat.le_of_ble_eq_true rfl) (Nat.le_of_ble_eq_true rfl) dX3_init_42 (fun q9 ad9 σ9 H9 ha9 gq hs9 h_8 hH => ?_)
  have g8 : ad9 8 = q9 := gq
  have g3 := (ha9 3 (by decide)).trans g3
  have g4 := (ha9 4 (by decide)).trans g4
  have g5 := (ha9 5 (by decide)).trans g5
  have g6 := (ha9 6 (by decide)).trans g6
  have g7 := (ha9 7 (by decide)).trans g7
  have h_3 := (hs9 3 (by decide)).trans h_3
  have h_4 := (hs9 4 (by decide)).trans h_4
  have h_5 := (hs9 5 (by decide)).trans h_5
  have h_6 := (hs9 6 (by decide)).trans h_6
  have h_7 := (hs9 7 (by decide)).trans h_7
  have hbs : ∀ i, i < 3 → σ9 i = σ0 i := fun i hi => (hs9 i (by omega)).trans (hbs i hi)
  have hba : ∀ i, i < 4 → ad9 i = ad i := fun i hi => (ha9 i (by omega)).trans (hba i hi)
  rw [← g3]
  refine zputF hx hb inlX3 tyX3 tyX3_ok nmX3 rfl 4 rfl zk_t1_35 rfl hname rfl hts hown hK hH (show 3 < 9 by omega) h_3 rfl rfl rfl dX3_init_44 (fun σ10 H10 l10 h_3 hs10 hH => ?_)
  have h_3 : σ10 3 = .inr (3, [.ref q1, .ref q3, .ref q5, .ref q7, .ref q9, .null, .int 0, .float 0, .int 0, .int 0, .int 0]) := h_3
  have h_4 := (hs10 4 (by decide)).trans h_4
  have h_5 := (hs10 5 (by decide)).trans h_5
  have h_6 := (hs10 6 (by decide)).trans h_6
  have h_7 := (hs10 7 (by decide)).trans h_7
  have h_8 := (hs10 8 (by decide)).trans h_8
  have hbs : ∀ i, i < 3 → σ10 i = σ0 i := fun i hi => (hs10 i (by omega)).trans (hbs i hi)
  refine lv_aload_n hx hb dX3_init_47 rfl (lv_at hl 0 rfl) ?_
  refine lv_bipush (v := zI 6) hx hb dX3_init_48 (by decide +kernel) ?_
  refine znewa (atype := .int) hx hb zk_t1_73 hts (ty := .int) rfl (fun _ h => h) hK hH hA 0 rfl (a0 := (6, .inl (zA fun _ => 0))) (fun _ => rfl) (by decide +kernel) (n := 6) (by decide +kernel) (by decide) (Nat.le_of_ble_eq_true rfl) (Nat.le_of_ble_eq_true rfl) dX3_init_50 (fun q11 ad11 σ11 H11 ha11 gq hs11 h_9 hH => ?_)
  have g9 : ad11 9 = q11 := gq
  have g3 := (ha11 3 (by decide)).trans g3
  have g4 := (ha11 4 (by decide)).trans g4
  have g5 := (ha11 5 (by decide)).trans g5
  have g6 := (ha11 6 (by decide)).trans g6
  have g7 := (ha11 7 (by decide)).trans g7
  have g8 := (ha11 8 (by decide)).trans g8
  have h_3 := (hs11 3 (by decide)).trans h_3
  have h_4 := (hs11 4 (by decide)).trans h_4
  have h_5 := (hs11 5 (by decide)).trans h_5
  have h_6 := (hs11 6 (by decide)).trans h_6
  have h_7 := (hs11 7 (by decide)).trans h_7
  have h_8 := (hs11 8 (by decide)).trans h_8
  have hbs : ∀ i, i < 3 → σ11 i = σ0 i := fun i hi => (hs11 i (by omega)).trans (hbs i hi)
  have hba : ∀ i, i < 4 → ad11 i = ad i := fun i hi => (ha11 i (by omega)).trans (hba i hi)
  rw [← g3]
  refine zputF hx hb inlX3 tyX3 tyX3_ok nmX3 rfl 5 rfl zk_t1_37 rfl hname rfl hts hown hK hH (show 3 < 10 by omega) h_3 rfl rfl rfl dX3_init_52 (fun σ12 H12 l12 h_3 hs12 hH => ?_)
  have h_3 : σ12 3 = .inr (3, [.ref q1, .ref q3, .ref q5, .ref q7, .ref q9, .ref q11, .int 0, .float 0, .int 0, .int 0, .int 0]) := h_3
  have h_4 := (hs12 4 (by decide)).trans h_4
  have h_5 := (hs12 5 (by decide)).trans h_5
  have h_6 := (hs12 6 (by decide)).trans h_6
  have h_7 := (hs12 7 (by decide)).trans h_7
  have h_8 := (hs12 8 (by decide)).trans h_8
  have h_9 := (hs12 9 (by decide)).trans h_9
  have hbs : ∀ i, i < 3 → σ12 i = σ0 i := fun i hi => (hs12 i (by omega)).trans (hbs i hi)
  refine lv_aload_n hx hb dX3_init_55 rfl (lv_at hl 0 rfl) ?_
  refine lv_iconst (v := zI (-1)) hx hb dX3_init_56 (by decide +kernel) ?_
  rw [← g3]
  refine zput hx hb inlX3 tyX3 tyX3_ok nmX3 rfl 10 rfl zk_t1_47 rfl hts hown hK hH (show 3 < 10 by omega) h_3 rfl rfl rfl dX3_init_57 (fun σ13 H13 l13 h_3 hs13 hH => ?_)
  have h_3 : σ13 3 = .inr (3, [.ref q1, .ref q3, .ref q5, .ref q7, .ref q9, .ref q11, .int 0, .float 0, .int 0, .int 0, .int (zI (-1))]) := h_3
  have h_4 := (hs13 4 (by decide)).trans h_4
  have h_5 := (hs13 5 (by decide)).trans h_5
  have h_6 := (hs13 6 (by decide)).trans h_6
  have h_7 := (hs13 7 (by decide)).trans h_7
  have h_8 := (hs13 8 (by decide)).trans h_8
  have h_9 := (hs13 9 (by decide)).trans h_9
  have hbs : ∀ i, i < 3 → σ13 i = σ0 i := fun i hi => (hs13 i (by omega)).trans (hbs i hi)
  exact zretn hx hb hr hlocks hQ hH ⟨hba, (by (rw [h_3, ← g4, ← g5, ← g6, ← g7, ← g8, ← g9]) <;> rfl), h_4, h_5, h_6, h_7, h_8, h_9, hbs⟩ dX3_init_60
abbrev rmX5_init : Room := { frames := 1, cells := 1, slots := 1024, locals := 20 }
theorem hd_X5_init : yX5_init.cls ≠ "java/lang/invoke/MethodHandle" ∧ yX5_init.cls ≠ "java/lang/invoke/VarHandle" ∧ (parseMethodDescriptor yX5_init.desc).map (fun d => d.parameters.length) = some 0 := by decide +kernel
set_option maxHeartbeats 4000000 in
set_option maxRecDepth 100000 in
theorem c_X5_init {l : Launch} {D : va_G} {cI cZ cF cL cD : ClassId} {ad : Nat → Nat} (hI : ∀ i j, i < 11 → j < 11 → ad i = ad j → i = j) {σ0 : Nat → va_E} {sz : Nat} (h_10 : σ0 10 = .inr (5, [.null, .int 0])) :
    Met l yX5_init (Cond.code yX5_init cX5_init 1 none :: wsL_law) rmX5_init (zPre D ad 11 (zT cI cZ cF cL cD) σ0 sz [.ref (ad 10)]) (zQn D ad 11 12 sz (fun adx σx => σx 10 = oC_ra adx 0 ∧ σx 11 = .inl (cZ, 1024, .inl (zA fun _ => 0)) ∧ ∀ i, i < 10 → σx i = σ0 i)) 1 1024 (zFr ad 11 sz) := by
  refine zMetI hI (by decide) rfl (Nat.le_of_ble_eq_true rfl) ?_
  intro p e s m args below meth c Q hx hb hr hlocks hname hml hown hts hK hsz hQ hH hA ls hl
  subst hsz
  have hl : lv_has ls 1 [(0, .ref (ad 10))] := hl
  have hbs : ∀ i, i < 10 → σ0 i = σ0 i := fun _ _ => rfl
  have hba : ∀ i, i < 11 → ad i = ad i := fun _ _ => rfl
  obtain ⟨h0, g10⟩ : ∃ q, ad 10 = q := ⟨_, rfl⟩
  rw [g10] at hl
  refine lv_aload_n hx hb dX5_init_0 rfl (lv_at hl 0 rfl) ?_
  refine W.objInit hx hb hown (hts _ zk_t1_79) (hts _ zk_t1_21) (hts _ zk_t1_22) rfl (by rw [hml]; exact hl.1) rfl dX5_init_1 (Nat.le_of_ble_eq_true rfl) (Nat.le_of_ble_eq_true rfl) ?_
  refine W.eq (g2 := F0 m 4 ls []) rfl ?_
  refine lv_aload_n hx hb dX5_init_4 rfl (lv_at hl 0 rfl) ?_
  refine lv_sipush (v := zI 1024) hx hb dX5_init_5 (by decide +kernel) ?_
  refine znewa (atype := .boolean) hx hb zk_t1_72 hts (ty := .boolean) rfl (fun _ h => h) hK hH hA 1 rfl (a0 := (1024, .inl (zA fun _ => 0))) (fun _ => rfl) (by decide +kernel) (n := 1024) (by decide +kernel) (by decide) (Nat.le_of_ble_eq_true rfl) (Nat.le_of_ble_eq_true rfl) dX5_init_8 (fun q1 ad1 σ1 H1 ha1 gq hs1 h_11 hH => ?_)
  have g11 : ad1 11 = q1 := gq
  have g10 := (ha1 10 (by decide)).trans g10
  have h_10 := (hs1 10 (by decide)).trans h_10
  have hbs : ∀ i, i < 10 → σ1 i = σ0 i := fun i hi => (hs1 i (by omega)).trans (hbs i hi)
  have hba : ∀ i, i < 11 → ad1 i = ad i := fun i hi => (ha1 i (by omega)).trans (hba i hi)
  rw [← g10]
  refine zputF hx hb inlX5 tyX5 tyX5_ok nmX5 rfl 0 rfl zk_t1_80 rfl hname rfl hts hown hK hH (show 10 < 12 by omega) h_10 rfl rfl rfl dX5_init_10 (fun σ2 H2 l2 h_10 hs2 hH => ?_)
  have h_10 : σ2 10 = .inr (5, [.ref q1, .int 0]) := h_10
  have h_11 := (hs2 11 (by decide)).trans h_11
  have hbs : ∀ i, i < 10 → σ2 i = σ0 i := fun i hi => (hs2 i (by omega)).trans (hbs i hi)
  exact zretn hx hb hr hlocks hQ hH ⟨hba, (by (rw [h_10, ← g11]) <;> rfl), h_11, hbs⟩ dX5_init_13
abbrev rmX2_init : Room := { frames := 1, cells := 1, slots := 49924, locals := 20 }
theorem hd_X2_init : yX2_init.cls ≠ "java/lang/invoke/MethodHandle" ∧ yX2_init.cls ≠ "java/lang/invoke/VarHandle" ∧ (parseMethodDescriptor yX2_init.desc).map (fun d => d.parameters.length) = some 0 := by decide +kernel
set_option maxHeartbeats 4000000 in
set_option maxRecDepth 100000 in
theorem c_X2_init {l : Launch} {D : va_G} {cI cZ cF cL cD : ClassId} {ad : Nat → Nat} (hI : ∀ i j, i < 13 → j < 13 → ad i = ad j → i = j) {σ0 : Nat → va_E} {sz : Nat} (h_12 : σ0 12 = .inr (2, [.null, .int 0, .int 0, .int 0, .int 0])) :
    Met l yX2_init (Cond.code yX2_init cX2_init 1 none :: wsL_law) rmX2_init (zPre D ad 13 (zT cI cZ cF cL cD) σ0 sz [.ref (ad 12)]) (zQn D ad 13 14 sz (fun adx σx => σx 12 = oC_pa adx 0 0 0 0 ∧ σx 13 = .inl (cI, 49924, .inl (zA fun _ => 0)) ∧ ∀ i, i < 12 → σx i = σ0 i)) 1 49924 (zFr ad 13 sz) := by
  refine zMetI hI (by decide) rfl (Nat.le_of_ble_eq_true rfl) ?_
  intro p e s m args below meth c Q hx hb hr hlocks hname hml hown hts hK hsz hQ hH hA ls hl
  subst hsz
  have hl : lv_has ls 1 [(0, .ref (ad 12))] := hl
  have hbs : ∀ i, i < 12 → σ0 i = σ0 i := fun _ _ => rfl
  have hba : ∀ i, i < 13 → ad i = ad i := fun _ _ => rfl
  obtain ⟨h0, g12⟩ : ∃ q, ad 12 = q := ⟨_, rfl⟩
  rw [g12] at hl
  refine lv_aload_n hx hb dX2_init_0 rfl (lv_at hl 0 rfl) ?_
  refine W.objInit hx hb hown (hts _ zk_t1_93) (hts _ zk_t1_21) (hts _ zk_t1_22) rfl (by rw [hml]; exact hl.1) rfl dX2_init_1 (Nat.le_of_ble_eq_true rfl) (Nat.le_of_ble_eq_true rfl) ?_
  refine W.eq (g2 := F0 m 4 ls []) rfl ?_
  refine lv_aload_n hx hb dX2_init_4 rfl (lv_at hl 0 rfl) ?_
  refine lv_ldc (v := zI 49924) hx hb hown (hts _ (show Cond.constant RX2 9 (zI 49924) ∈ wsL_law from zk_t1_94)) dX2_init_5 ?_
  refine znewa (atype := .int) hx hb zk_t1_73 hts (ty := .int) rfl (fun _ h => h) hK hH hA 0 rfl (a0 := (49924, .inl (zA fun _ => 0))) (fun _ => rfl) (by decide +kernel) (n := 49924) (by decide +kernel) (by decide) (Nat.le_of_ble_eq_true rfl) (Nat.le_of_ble_eq_true rfl) dX2_init_7 (fun q1 ad1 σ1 H1 ha1 gq hs1 h_13 hH => ?_)
  have g13 : ad1 13 = q1 := gq
  have g12 := (ha1 12 (by decide)).trans g12
  have h_12 := (hs1 12 (by decide)).trans h_12
  have hbs : ∀ i, i < 12 → σ1 i = σ0 i := fun i hi => (hs1 i (by omega)).trans (hbs i hi)
  have hba : ∀ i, i < 13 → ad1 i = ad i := fun i hi => (ha1 i (by omega)).trans (hba i hi)
  rw [← g12]
  refine zputF hx hb inlX2 tyX2 tyX2_ok nmX2 rfl 0 rfl zk_t1_95 rfl hname rfl hts hown hK hH (show 12 < 14 by omega) h_12 rfl rfl rfl dX2_init_9 (fun σ2 H2 l2 h_12 hs2 hH => ?_)
  have h_12 : σ2 12 = .inr (2, [.ref q1, .int 0, .int 0, .int 0, .int 0]) := h_12
  have h_13 := (hs2 13 (by decide)).trans h_13
  have hbs : ∀ i, i < 12 → σ2 i = σ0 i := fun i hi => (hs2 i (by omega)).trans (hbs i hi)
  refine lv_aload_n hx hb dX2_init_12 rfl (lv_at hl 0 rfl) ?_
  refine lv_iconst (v := zI 0) hx hb dX2_init_13 (by decide +kernel) ?_
  rw [← g12]
  refine zput hx hb inlX2 tyX2 tyX2_ok nmX2 rfl 2 rfl zk_t1_99 rfl hts hown hK hH (show 12 < 14 by omega) h_12 rfl rfl rfl dX2_init_14 (fun σ3 H3 l3 h_12 hs3 hH => ?_)
  have h_12 : σ3 12 = .inr (2, [.ref q1, .int 0, .int (zI 0), .int 0, .int 0]) := h_12
  have h_13 := (hs3 13 (by decide)).trans h_13
  have hbs : ∀ i, i < 12 → σ3 i = σ0 i := fun i hi => (hs3 i (by omega)).trans (hbs i hi)
  exact zretn hx hb hr hlocks hQ hH ⟨hba, (by (rw [h_12, ← g13]) <;> rfl), h_13, hbs⟩ dX2_init_17
abbrev rmX1_init : Room := { frames := 1, cells := 4, slots := 16654, locals := 20 }
theorem hd_X1_init : yX1_init.cls ≠ "java/lang/invoke/MethodHandle" ∧ yX1_init.cls ≠ "java/lang/invoke/VarHandle" ∧ (parseMethodDescriptor yX1_init.desc).map (fun d => d.parameters.length) = some 0 := by decide +kernel
set_option maxHeartbeats 4000000 in
set_option maxRecDepth 100000 in
theorem c_X1_init {l : Launch} {D : va_G} {cI cZ cF cL cD : ClassId} {ad : Nat → Nat} (hI : ∀ i j, i < 15 → j < 15 → ad i = ad j → i = j) {σ0 : Nat → va_E} {sz : Nat} (h_14 : σ0 14 = .inr (1, [.null, .null, .null, .null, .int 0, .int 0, .int 0, .int 0])) :
    Met l yX1_init (Cond.code yX1_init cX1_init 1 none :: wsL_law) rmX1_init (zPre D ad 15 (zT cI cZ cF cL cD) σ0 sz [.ref (ad 14)]) (zQn D ad 15 19 sz (fun adx σx => σx 14 = oC_ma adx 0 0 0 0 ∧ σx 15 = .inl (cI, 16642, .inl (zA fun _ => 0)) ∧ σx 16 = .inl (cZ, 4, .inl (zA fun _ => 0)) ∧ σx 17 = .inl (cI, 4, .inl (zA fun _ => 0)) ∧ σx 18 = .inl (cI, 4, .inl (zA fun _ => 0)) ∧ ∀ i, i < 14 → σx i = σ0 i)) 4 16654 (zFr ad 15 sz) := by
  refine zMetI hI (by decide) rfl (Nat.le_of_ble_eq_true rfl) ?_
  intro p e s m args below meth c Q hx hb hr hlocks hname hml hown hts hK hsz hQ hH hA ls hl
  subst hsz
  have hl : lv_has ls 1 [(0, .ref (ad 14))] := hl
  have hbs : ∀ i, i < 14 → σ0 i = σ0 i := fun _ _ => rfl
  have hba : ∀ i, i < 15 → ad i = ad i := fun _ _ => rfl
  obtain ⟨h0, g14⟩ : ∃ q, ad 14 = q := ⟨_, rfl⟩
  rw [g14] at hl
  refine lv_aload_n hx hb dX1_init_0 rfl (lv_at hl 0 rfl) ?_
  refine W.objInit hx hb hown (hts _ zk_t1_120) (hts _ zk_t1_21) (hts _ zk_t1_22) rfl (by rw [hml]; exact hl.1) rfl dX1_init_1 (Nat.le_of_ble_eq_true rfl) (Nat.le_of_ble_eq_true rfl) ?_
  refine W.eq (g2 := F0 m 4 ls []) rfl ?_
  refine lv_aload_n hx hb dX1_init_4 rfl (lv_at hl 0 rfl) ?_
  refine lv_sipush (v := zI 16642) hx hb dX1_init_5 (by decide +kernel) ?_
  refine znewa (atype := .int) hx hb zk_t1_73 hts (ty := .int) rfl (fun _ h => h) hK hH hA 0 rfl (a0 := (16642, .inl (zA fun _ => 0))) (fun _ => rfl) (by decide +kernel) (n := 16642) (by decide +kernel) (by decide) (Nat.le_of_ble_eq_true rfl) (Nat.le_of_ble_eq_true rfl) dX1_init_8 (fun q1 ad1 σ1 H1 ha1 gq hs1 h_15 hH => ?_)
  have g15 : ad1 15 = q1 := gq
  have g14 := (ha1 14 (by decide)).trans g14
  have h_14 := (hs1 14 (by decide)).trans h_14
  have hbs : ∀ i, i < 14 → σ1 i = σ0 i := fun i hi => (hs1 i (by omega)).trans (hbs i hi)
  have hba : ∀ i, i < 15 → ad1 i = ad i := fun i hi => (ha1 i (by omega)).trans (hba i hi)
  rw [← g14]
  refine zputF hx hb inlX1 tyX1 tyX1_ok nmX1 rfl 0 rfl zk_t1_121 rfl hname rfl hts hown hK hH (show 14 < 16 by omega) h_14 rfl rfl rfl dX1_init_10 (fun σ2 H2 l2 h_14 hs2 hH => ?_)
  have h_14 : σ2 14 = .inr (1, [.ref q1, .null, .null, .null, .int 0, .int 0, .int 0, .int 0]) := h_14
  have h_15 := (hs2 15 (by decide)).trans h_15
  have hbs : ∀ i, i < 14 → σ2 i = σ0 i := fun i hi => (hs2 i (by omega)).trans (hbs i hi)
  refine lv_aload_n hx hb dX1_init_13 rfl (lv_at hl 0 rfl) ?_
  refine lv_iconst (v := zI 4) hx hb dX1_init_14 (by decide +kernel) ?_
  refine znewa (atype := .boolean) hx hb zk_t1_72 hts (ty := .boolean) rfl (fun _ h => h) hK hH hA 1 rfl (a0 := (4, .inl (zA fun _ => 0))) (fun _ => rfl) (by decide +kernel) (n := 4) (by decide +kernel) (by decide) (Nat.le_of_ble_eq_true rfl) (Nat.le_of_ble_eq_true rfl) dX1_init_15 (fun q3 ad3 σ3 H3 ha3 gq hs3 h_16 hH => ?_)
  have g16 : ad3 16 = q3 := gq
  have g14 := (ha3 14 (by decide)).trans g14
  have g15 := (ha3 15 (by decide)).trans g15
  have h_14 := (hs3 14 (by decide)).trans h_14
  have h_15 := (hs3 15 (by decide)).trans h_15
  have hbs : ∀ i, i < 14 → σ3 i = σ0 i := fun i hi => (hs3 i (by omega)).trans (hbs i hi)
  have hba : ∀ i, i < 15 → ad3 i = ad i := fun i hi => (ha3 i (by omega)).trans (hba i hi)
  rw [← g14]
  refine zputF hx hb inlX1 tyX1 tyX1_ok nmX1 rfl 1 rfl zk_t1_122 rfl hname rfl hts hown hK hH (show 14 < 17 by omega) h_14 rfl rfl rfl dX1_init_17 (fun σ4 H4 l4 h_14 hs4 hH => ?_)
  have h_14 : σ4 14 = .inr (1, [.ref q1, .ref q3, .null, .null, .int 0, .int 0, .int 0, .int 0]) := h_14
  have h_15 := (hs4 15 (by decide)).trans h_15
  have h_16 := (hs4 16 (by decide)).trans h_16
  have hbs : ∀ i, i < 14 → σ4 i = σ0 i := fun i hi => (hs4 i (by omega)).trans (hbs i hi)
  refine lv_aload_n hx hb dX1_init_20 rfl (lv_at hl 0 rfl) ?_
  refine lv_iconst (v := zI 4) hx hb dX1_init_21 (by decide +kernel) ?_
  refine znewa (atype := .int) hx hb zk_t1_73 hts (ty := .int) rfl (fun _ h => h) hK hH hA 0 rfl (a0 := (4, .inl (zA fun _ => 0))) (fun _ => rfl) (by decide +kernel) (n := 4) (by decide +kernel) (by decide) (Nat.le_of_ble_eq_true rfl) (Nat.le_of_ble_eq_true rfl) dX1_init_22 (fun q5 ad5 σ5 H5 ha5 gq hs5 h_17 hH => ?_)
  have g17 : ad5 17 = q5 := gq
  have g14 := (ha5 14 (by decide)).trans g14
  have g15 := (ha5 15 (by decide)).trans g15
  have g16 := (ha5 16 (by decide)).trans g16
  have h_14 := (hs5 14 (by decide)).trans h_14
  have h_15 := (hs5 15 (by decide)).trans h_15
  have h_16 := (hs5 16 (by decide)).trans h_16
  have hbs : ∀ i, i < 14 → σ5 i = σ0 i := fun i hi => (hs5 i (by omega)).trans (hbs i hi)
  have hba : ∀ i, i < 15 → ad5 i = ad i := fun i hi => (ha5 i (by omega)).trans (hba i hi)
  rw [← g14]
  refine zputF hx hb inlX1 tyX1 tyX1_ok nmX1 rfl 2 rfl zk_t1_124 rfl hname rfl hts hown hK hH (show 14 < 18 by omega) h_14 rfl rfl rfl dX1_init_24 (fun σ6 H6 l6 h_14 hs6 hH => ?_)
  have h_14 : σ6 14 = .inr (1, [.ref q1, .ref q3, .ref q5, .null, .int 0, .int 0, .int 0, .int 0]) := h_14
  have h_15 := (hs6 15 (by decide)).trans h_15
  have h_16 := (hs6 16 (by decide)).trans h_16
  have h_17 := (hs6 17 (by decide)).trans h_17
  have hbs : ∀ i, i < 14 → σ6 i = σ0 i := fun i hi => (hs6 i (by omega)).trans (hbs i hi)
  refine lv_aload_n hx hb dX1_init_27 rfl (lv_at hl 0 rfl) ?_
  refine lv_iconst (v := zI 4) hx hb dX1_init_28 (by decide +kernel) ?_
  refine znewa (atype := .int) hx hb zk_t1_73 hts (ty := .int) rfl (fun _ h => h) hK hH hA 0 rfl (a0 := (4, .inl (zA fun _ => 0))) (fun _ => rfl) (by decide +kernel) (n := 4) (by decide +kernel) (by decide) (Nat.le_of_ble_eq_true rfl) (Nat.le_of_ble_eq_true rfl) dX1_init_29 (fun q7 ad7 σ7 H7 ha7 gq hs7 h_18 hH => ?_)
  have g18 : ad7 18 = q7 := gq
  have g14 := (ha7 14 (by decide)).trans g14
  have g15 := (ha7 15 (by decide)).trans g15
  have g16 := (ha7 16 (by decide)).trans g16
  have g17 := (ha7 17 (by decide)).trans g17
  have h_14 := (hs7 14 (by decide)).trans h_14
  have h_15 := (hs7 15 (by decide)).trans h_15
  have h_16 := (hs7 16 (by decide)).trans h_16
  have h_17 := (hs7 17 (by decide)).trans h_17
  have hbs : ∀ i, i < 14 → σ7 i = σ0 i := fun i hi => (hs7 i (by omega)).trans (hbs i hi)
  have hba : ∀ i, i < 15 → ad7 i = ad i := fun i hi => (ha7 i (by omega)).trans (hba i hi)
  rw [← g14]
  refine zputF hx hb inlX1 tyX1 tyX1_ok nmX1 rfl 3 rfl zk_t1_125 rfl hname rfl hts hown hK hH (show 14 < 19 by omega) h_14 rfl rfl rfl dX1_init_31 (fun σ8 H8 l8 h_14 hs8 hH => ?_)
  have h_14 : σ8 14 = .inr (1, [.ref q1, .ref q3, .ref q5, .ref q7, .int 0, .int 0, .int 0, .int 0]) := h_14
  have h_15 := (hs8 15 (by decide)).trans h_15
  have h_16 := (hs8 16 (by decide)).trans h_16
  have h_17 := (hs8 17 (by decide)).trans h_17
  have h_18 := (hs8 18 (by decide)).trans h_18
  have hbs : ∀ i, i < 14 → σ8 i = σ0 i := fun i hi => (hs8 i (by omega)).trans (hbs i hi)
  exact zretn hx hb hr hlocks hQ hH ⟨hba, (by (rw [h_14, ← g15, ← g16, ← g17, ← g18]) <;> rfl), h_15, h_16, h_17, h_18, hbs⟩ dX1_init_34
abbrev rmX6_init : Room := { frames := 2, cells := 18, slots := 134219, locals := 40 }
theorem hd_X6_init : yX6_init.cls ≠ "java/lang/invoke/MethodHandle" ∧ yX6_init.cls ≠ "java/lang/invoke/VarHandle" ∧ (parseMethodDescriptor yX6_init.desc).map (fun d => d.parameters.length) = some 0 := by decide +kernel
set_option maxHeartbeats 4000000 in
set_option maxRecDepth 100000 in
theorem c_X6_init {l : Launch} {D : va_G} {cI cZ cF cL cD : ClassId} {ad : Nat → Nat} (hI : ∀ i j, i < 1 → j < 1 → ad i = ad j → i = j) {σ0 : Nat → va_E} {sz : Nat} (h_0 : σ0 0 = .inr (6, [.null, .null, .null, .null, .null, .null, .int 0, .int 0, .int 0])) :
    Met l yX6_init (Cond.code yX6_init cX6_init 1 none :: wsL_law) rmX6_init (zPreA D ad 1 (zT cI cZ cF cL cD) σ0 sz [.ref (ad 0)]) (zQn D ad 1 19 sz (fun adx σx => σx 0 = oC_sp adx 0 8 0 ∧ σx 1 = .inl (cF, 8, .inr (.inr (.inr (.inr (fun _ => none))))) ∧ σx 2 = .inl (cZ, 8, .inl (zA fun _ => 0)) ∧ σx 3 = oC_pl adx 0 0 0 0 (-1) ∧ σx 4 = .inl (cI, 16641, .inl (zA fun _ => 0)) ∧ σx 5 = .inl (cI, 16641, .inl (zA fun _ => 0)) ∧ σx 6 = .inl (cI, 16641, .inl (zA fun _ => 0)) ∧ σx 7 = .inl (cI, 16641, .inl (zA fun _ => 0)) ∧ σx 8 = .inl (cI, 5, .inl (zA fun _ => 0)) ∧ σx 9 = .inl (cI, 6, .inl (zA fun _ => 0)) ∧ σx 10 = oC_ra adx 0 ∧ σx 11 = .inl (cZ, 1024, .inl (zA fun _ => 0)) ∧ σx 12 = oC_pa adx 0 0 0 0 ∧ σx 13 = .inl (cI, 49924, .inl (zA fun _ => 0)) ∧ σx 14 = oC_ma adx 0 0 0 0 ∧ σx 15 = .inl (cI, 16642, .inl (zA fun _ => 0)) ∧ σx 16 = .inl (cZ, 4, .inl (zA fun _ => 0)) ∧ σx 17 = .inl (cI, 4, .inl (zA fun _ => 0)) ∧ σx 18 = .inl (cI, 4, .inl (zA fun _ => 0)) ∧ ∀ i, i < 0 → σx i = σ0 i)) 18 134219 (zFr ad 1 sz) := by
  refine zMetA hI (by decide) rfl (Nat.le_of_ble_eq_true rfl) ?_
  intro p e s m args below meth c Q hx hb hr hlocks hname hml hown hts hK hao hsz hQ hH hA ls hl
  subst hsz
  have hl : lv_has ls 1 [(0, .ref (ad 0))] := hl
  have hbs : ∀ i, i < 0 → σ0 i = σ0 i := fun _ _ => rfl
  have hba : ∀ i, i < 1 → ad i = ad i := fun _ _ => rfl
  obtain ⟨h0, g0⟩ : ∃ q, ad 0 = q := ⟨_, rfl⟩
  rw [g0] at hl
  refine lv_aload_n hx hb dX6_init_0 rfl (lv_at hl 0 rfl) ?_
  refine W.objInit hx hb hown (hts _ zk_t1_20) (hts _ zk_t1_21) (hts _ zk_t1_22) rfl (by rw [hml]; exact hl.1) rfl dX6_init_1 (Nat.le_of_ble_eq_true rfl) (Nat.le_of_ble_eq_true rfl) ?_
  refine W.eq (g2 := F0 m 4 ls []) rfl ?_
  refine lv_aload_n hx hb dX6_init_4 rfl (lv_at hl 0 rfl) ?_
  refine lv_bipush (v := zI 8) hx hb dX6_init_5 (by decide +kernel) ?_
  refine znewq hx hb hown zk_t1_23 hts hao hK hH hA 2 rfl (by decide +kernel) (n := 8) (by decide +kernel) (by decide) (Nat.le_of_ble_eq_true rfl) (Nat.le_of_ble_eq_true rfl) dX6_init_7 (fun q1 ad1 σ1 H1 ha1 gq hs1 h_1 hH => ?_)
  have g1 : ad1 1 = q1 := gq
  have g0 := (ha1 0 (by decide)).trans g0
  have h_0 := (hs1 0 (by decide)).trans h_0
  have hbs : ∀ i, i < 0 → σ1 i = σ0 i := fun i hi => (hs1 i (by omega)).trans (hbs i hi)
  have hba : ∀ i, i < 1 → ad1 i = ad i := fun i hi => (ha1 i (by omega)).trans (hba i hi)
  rw [← g0]
  refine zputF hx hb inlX6 tyX6 tyX6_ok nmX6 rfl 0 rfl zk_t1_149 rfl hname rfl hts hown hK hH (show 0 < 2 by omega) h_0 rfl rfl rfl dX6_init_10 (fun σ2 H2 l2 h_0 hs2 hH => ?_)
  have h_0 : σ2 0 = .inr (6, [.ref q1, .null, .null, .null, .null, .null, .int 0, .int 0, .int 0]) := h_0
  have h_1 := (hs2 1 (by decide)).trans h_1
  have hbs : ∀ i, i < 0 → σ2 i = σ0 i := fun i hi => (hs2 i (by omega)).trans (hbs i hi)
  refine lv_aload_n hx hb dX6_init_13 rfl (lv_at hl 0 rfl) ?_
  refine lv_bipush (v := zI 8) hx hb dX6_init_14 (by decide +kernel) ?_
  refine znewa (atype := .boolean) hx hb zk_t1_72 hts (ty := .boolean) rfl (fun _ h => h) hK hH hA 1 rfl (a0 := (8, .inl (zA fun _ => 0))) (fun _ => rfl) (by decide +kernel) (n := 8) (by decide +kernel) (by decide) (Nat.le_of_ble_eq_true rfl) (Nat.le_of_ble_eq_true rfl) dX6_init_16 (fun q3 ad3 σ3 H3 ha3 gq hs3 h_2 hH => ?_)
  have g2 : ad3 2 = q3 := gq
  have g0 := (ha3 0 (by decide)).trans g0
  have g1 := (ha3 1 (by decide)).trans g1
  have h_0 := (hs3 0 (by decide)).trans h_0
  have h_1 := (hs3 1 (by decide)).trans h_1
  have hbs : ∀ i, i < 0 → σ3 i = σ0 i := fun i hi => (hs3 i (by omega)).trans (hbs i hi)
  have hba : ∀ i, i < 1 → ad3 i = ad i := fun i hi => (ha3 i (by omega)).trans (hba i hi)
  rw [← g0]
  refine zputF hx hb inlX6 tyX6 tyX6_ok nmX6 rfl 1 rfl zk_t1_150 rfl hname rfl hts hown hK hH (show 0 < 3 by omega) h_0 rfl rfl rfl dX6_init_18 (fun σ4 H4 l4 h_0 hs4 hH => ?_)
  have h_0 : σ4 0 = .inr (6, [.ref q1, .ref q3, .null, .null, .null, .null, .int 0, .int 0, .int 0]) := h_0
  have h_1 := (hs4 1 (by decide)).trans h_1
  have h_2 := (hs4 2 (by decide)).trans h_2
  have hbs : ∀ i, i < 0 → σ4 i = σ0 i := fun i hi => (hs4 i (by omega)).trans (hbs i hi)
  refine lv_aload_n hx hb dX6_init_21 rfl (lv_at hl 0 rfl) ?_
  refine znew hx hb hts inlX3 tyX3 tyX3_ok hown zk_t1_25 zk_t1_26 zk_t1_2 hK hH hA (ci := 3) rfl (fs := [.null, .null, .null, .null, .null, .null, .int 0, .float 0, .int 0, .int 0, .int 0]) (fun j hj => match j, hj with | 0, _ => rfl | 1, _ => rfl | 2, _ => rfl | 3, _ => rfl | 4, _ => rfl | 5, _ => rfl | 6, _ => rfl | 7, _ => rfl | 8, _ => rfl | 9, _ => rfl | 10, _ => rfl | q + 11, h => absurd h (by omega)) (Nat.le_of_ble_eq_true rfl) (Nat.le_of_ble_eq_true rfl) dX6_init_22 (fun q5 ad5 σ5 H5 ha5 gq hs5 h_3 hH => ?_)
  have g3 : ad5 3 = q5 := gq
  have g0 := (ha5 0 (by decide)).trans g0
  have g1 := (ha5 1 (by decide)).trans g1
  have g2 := (ha5 2 (by decide)).trans g2
  have h_0 := (hs5 0 (by decide)).trans h_0
  have h_1 := (hs5 1 (by decide)).trans h_1
  have h_2 := (hs5 2 (by decide)).trans h_2
  have hbs : ∀ i, i < 0 → σ5 i = σ0 i := fun i hi => (hs5 i (by omega)).trans (hbs i hi)
  have hba : ∀ i, i < 1 → ad5 i = ad i := fun i hi => (ha5 i (by omega)).trans (hba i hi)
  refine lv_dup hx hb dX6_init_25 rfl ?_
  rw [← g3]
  refine zcIn (k := 3) (As := []) (rest := [.ref (ad5 3), .ref h0]) hx hb hml hown hts hl.1 hK hH hA (c_X3_init (zD_inj hH.2.1) h_3) (Nat.le_of_ble_eq_true rfl) (host := RX6) (List.mem_of_getElem? (i := 0) rfl) zk_t1_28 zk_t1_2 zk_t1_29 rfl hd_X3_init rfl ⟨rfl, rfl, Nat.le_of_ble_eq_true rfl, Nat.le_of_ble_eq_true rfl⟩ ⟨Nat.le_of_ble_eq_true rfl, Nat.le_of_ble_eq_true rfl⟩ rfl (Nat.le_of_ble_eq_true rfl) dX6_init_26 (fun ad6 σ6 H6 l6 ha6 hp hH => ?_)
  obtain ⟨h_3, h_4, h_5, h_6, h_7, h_8, h_9, hs6⟩ := hp
  have g0 := (ha6 0 (by decide)).trans g0
  have g1 := (ha6 1 (by decide)).trans g1
  have g2 := (ha6 2 (by decide)).trans g2
  have g3 := (ha6 3 (by decide)).trans g3
  have h_0 := (hs6 0 (by decide)).trans h_0
  have h_1 := (hs6 1 (by decide)).trans h_1
  have h_2 := (hs6 2 (by decide)).trans h_2
  have hbs : ∀ i, i < 0 → σ6 i = σ0 i := fun i hi => (hs6 i (by omega)).trans (hbs i hi)
  have hba : ∀ i, i < 1 → ad6 i = ad i := fun i hi => (ha6 i (by omega)).trans (hba i hi)
  have hn3 : ∀ i, i < 10 → ad6 i = ad6 i := fun _ _ => rfl
  rw [show ad5 3 = q5 from (ha6 3 (by omega)).symm.trans g3]
  rw [← g0]
  refine zputF hx hb inlX6 tyX6 tyX6_ok nmX6 rfl 2 rfl zk_t1_151 rfl hname rfl hts hown hK hH (show 0 < 10 by omega) h_0 rfl rfl rfl dX6_init_29 (fun σ7 H7 l7 h_0 hs7 hH => ?_)
  have h_0 : σ7 0 = .inr (6, [.ref q1, .ref q3, .ref q5, .null, .null, .null, .int 0, .int 0, .int 0]) := h_0
  have h_1 := (hs7 1 (by decide)).trans h_1
  have h_2 := (hs7 2 (by decide)).trans h_2
  have h_3 := (hs7 3 (by decide)).trans h_3
  have h_4 := (hs7 4 (by decide)).trans h_4
  have h_5 := (hs7 5 (by decide)).trans h_5
  have h_6 := (hs7 6 (by decide)).trans h_6
  have h_7 := (hs7 7 (by decide)).trans h_7
  have h_8 := (hs7 8 (by decide)).trans h_8
  have h_9 := (hs7 9 (by decide)).trans h_9
  have hbs : ∀ i, i < 0 → σ7 i = σ0 i := fun i hi => (hs7 i (by omega)).trans (hbs i hi)
  refine lv_aload_n hx hb dX6_init_32 rfl (lv_at hl 0 rfl) ?_
  refine znew hx hb hts inlX5 tyX5 tyX5_ok hown zk_t1_74 zk_t1_75 zk_t1_3 hK hH hA (ci := 5) rfl (fs := [.null, .int 0]) (fun j hj => match j, hj with | 0, _ => rfl | 1, _ => rfl | q + 2, h => absurd h (by omega)) (Nat.le_of_ble_eq_true rfl) (Nat.le_of_ble_eq_true rfl) dX6_init_33 (fun q8 ad8 σ8 H8 ha8 gq hs8 h_10 hH => ?_)
  have g10 : ad8 10 = q8 := gq
  have g0 := (ha8 0 (by decide)).trans g0
  have g1 := (ha8 1 (by decide)).trans g1
  have g2 := (ha8 2 (by decide)).trans g2
  have g3 := (ha8 3 (by decide)).trans g3
  have h_0 := (hs8 0 (by decide)).trans h_0
  have h_1 := (hs8 1 (by decide)).trans h_1
  have h_2 := (hs8 2 (by decide)).trans h_2
  have h_3 := (hs8 3 (by decide)).trans h_3
  have h_4 := (hs8 4 (by decide)).trans h_4
  have h_5 := (hs8 5 (by decide)).trans h_5
  have h_6 := (hs8 6 (by decide)).trans h_6
  have h_7 := (hs8 7 (by decide)).trans h_7
  have h_8 := (hs8 8 (by decide)).trans h_8
  have h_9 := (hs8 9 (by decide)).trans h_9
  have hbs : ∀ i, i < 0 → σ8 i = σ0 i := fun i hi => (hs8 i (by omega)).trans (hbs i hi)
  have hba : ∀ i, i < 1 → ad8 i = ad i := fun i hi => (ha8 i (by omega)).trans (hba i hi)
  have hn3 : ∀ i, i < 10 → ad8 i = ad6 i := fun i hi => (ha8 i (by omega)).trans (hn3 i hi)
  refine lv_dup hx hb dX6_init_36 rfl ?_
  rw [← g10]
  refine zcIn (k := 10) (As := []) (rest := [.ref (ad8 10), .ref h0]) hx hb hml hown hts hl.1 hK hH hA (c_X5_init (zD_inj hH.2.1) h_10) (Nat.le_of_ble_eq_true rfl) (host := RX6) (List.mem_of_getElem? (i := 1) rfl) zk_t1_77 zk_t1_3 zk_t1_78 rfl hd_X5_init rfl ⟨rfl, rfl, Nat.le_of_ble_eq_true rfl, Nat.le_of_ble_eq_true rfl⟩ ⟨Nat.le_of_ble_eq_true rfl, Nat.le_of_ble_eq_true rfl⟩ rfl (Nat.le_of_ble_eq_true rfl) dX6_init_37 (fun ad9 σ9 H9 l9 ha9 hp hH => ?_)
  obtain ⟨h_10, h_11, hs9⟩ := hp
  have g0 := (ha9 0 (by decide)).trans g0
  have g1 := (ha9 1 (by decide)).trans g1
  have g2 := (ha9 2 (by decide)).trans g2
  have g3 := (ha9 3 (by decide)).trans g3
  have g10 := (ha9 10 (by decide)).trans g10
  have h_0 := (hs9 0 (by decide)).trans h_0
  have h_1 := (hs9 1 (by decide)).trans h_1
  have h_2 := (hs9 2 (by decide)).trans h_2
  have h_3 := (hs9 3 (by decide)).trans h_3
  have h_4 := (hs9 4 (by decide)).trans h_4
  have h_5 := (hs9 5 (by decide)).trans h_5
  have h_6 := (hs9 6 (by decide)).trans h_6
  have h_7 := (hs9 7 (by decide)).trans h_7
  have h_8 := (hs9 8 (by decide)).trans h_8
  have h_9 := (hs9 9 (by decide)).trans h_9
  have hbs : ∀ i, i < 0 → σ9 i = σ0 i := fun i hi => (hs9 i (by omega)).trans (hbs i hi)
  have hba : ∀ i, i < 1 → ad9 i = ad i := fun i hi => (ha9 i (by omega)).trans (hba i hi)
  have hn3 : ∀ i, i < 10 → ad9 i = ad6 i := fun i hi => (ha9 i (by omega)).trans (hn3 i hi)
  have hn10 : ∀ i, i < 12 → ad9 i = ad9 i := fun _ _ => rfl
  rw [show ad8 10 = q8 from (ha9 10 (by omega)).symm.trans g10]
  rw [← g0]
  refine zputF hx hb inlX6 tyX6 tyX6_ok nmX6 rfl 3 rfl zk_t1_152 rfl hname rfl hts hown hK hH (show 0 < 12 by omega) h_0 rfl rfl rfl dX6_init_40 (fun σ10 H10 l10 h_0 hs10 hH => ?_)
  have h_0 : σ10 0 = .inr (6, [.ref q1, .ref q3, .ref q5, .ref q8, .null, .null, .int 0, .int 0, .int 0]) := h_0
  have h_1 := (hs10 1 (by decide)).trans h_1
  have h_2 := (hs10 2 (by decide)).trans h_2
  have h_3 := (hs10 3 (by decide)).trans h_3
  have h_4 := (hs10 4 (by decide)).trans h_4
  have h_5 := (hs10 5 (by decide)).trans h_5
  have h_6 := (hs10 6 (by decide)).trans h_6
  have h_7 := (hs10 7 (by decide)).trans h_7
  have h_8 := (hs10 8 (by decide)).trans h_8
  have h_9 := (hs10 9 (by decide)).trans h_9
  have h_10 := (hs10 10 (by decide)).trans h_10
  have h_11 := (hs10 11 (by decide)).trans h_11
  have hbs : ∀ i, i < 0 → σ10 i = σ0 i := fun i hi => (hs10 i (by omega)).trans (hbs i hi)
  refine lv_aload_n hx hb dX6_init_43 rfl (lv_at hl 0 rfl) ?_
  refine znew hx hb hts inlX2 tyX2 tyX2_ok hown zk_t1_88 zk_t1_89 zk_t1_4 hK hH hA (ci := 2) rfl (fs := [.null, .int 0, .int 0, .int 0, .int 0]) (fun j hj => match j, hj with | 0, _ => rfl | 1, _ => rfl | 2, _ => rfl | 3, _ => rfl | 4, _ => rfl | q + 5, h => absurd h (by omega)) (Nat.le_of_ble_eq_true rfl) (Nat.le_of_ble_eq_true rfl) dX6_init_44 (fun q11 ad11 σ11 H11 ha11 gq hs11 h_12 hH => ?_)
  have g12 : ad11 12 = q11 := gq
  have g0 := (ha11 0 (by decide)).trans g0
  have g1 := (ha11 1 (by decide)).trans g1
  have g2 := (ha11 2 (by decide)).trans g2
  have g3 := (ha11 3 (by decide)).trans g3
  have g10 := (ha11 10 (by decide)).trans g10
  have h_0 := (hs11 0 (by decide)).trans h_0
  have h_1 := (hs11 1 (by decide)).trans h_1
  have h_2 := (hs11 2 (by decide)).trans h_2
  have h_3 := (hs11 3 (by decide)).trans h_3
  have h_4 := (hs11 4 (by decide)).trans h_4
  have h_5 := (hs11 5 (by decide)).trans h_5
  have h_6 := (hs11 6 (by decide)).trans h_6
  have h_7 := (hs11 7 (by decide)).trans h_7
  have h_8 := (hs11 8 (by decide)).trans h_8
  have h_9 := (hs11 9 (by decide)).trans h_9
  have h_10 := (hs11 10 (by decide)).trans h_10
  have h_11 := (hs11 11 (by decide)).trans h_11
  have hbs : ∀ i, i < 0 → σ11 i = σ0 i := fun i hi => (hs11 i (by omega)).trans (hbs i hi)
  have hba : ∀ i, i < 1 → ad11 i = ad i := fun i hi => (ha11 i (by omega)).trans (hba i hi)
  have hn3 : ∀ i, i < 10 → ad11 i = ad6 i := fun i hi => (ha11 i (by omega)).trans (hn3 i hi)
  have hn10 : ∀ i, i < 12 → ad11 i = ad9 i := fun i hi => (ha11 i (by omega)).trans (hn10 i hi)
  refine lv_dup hx hb dX6_init_47 rfl ?_
  rw [← g12]
  refine zcIn (k := 12) (As := []) (rest := [.ref (ad11 12), .ref h0]) hx hb hml hown hts hl.1 hK hH hA (c_X2_init (zD_inj hH.2.1) h_12) (Nat.le_of_ble_eq_true rfl) (host := RX6) (List.mem_of_getElem? (i := 2) rfl) zk_t1_91 zk_t1_4 zk_t1_92 rfl hd_X2_init rfl ⟨rfl, rfl, Nat.le_of_ble_eq_true rfl, Nat.le_of_ble_eq_true rfl⟩ ⟨Nat.le_of_ble_eq_true rfl, Nat.le_of_ble_eq_true rfl⟩ rfl (Nat.le_of_ble_eq_true rfl) dX6_init_48 (fun ad12 σ12 H12 l12 ha12 hp hH => ?_)
  obtain ⟨h_12, h_13, hs12⟩ := hp
  have g0 := (ha12 0 (by decide)).trans g0
  have g1 := (ha12 1 (by decide)).trans g1
  have g2 := (ha12 2 (by decide)).trans g2
  have g3 := (ha12 3 (by decide)).trans g3
  have g10 := (ha12 10 (by decide)).trans g10
  have g12 := (ha12 12 (by decide)).trans g12
  have h_0 := (hs12 0 (by decide)).trans h_0
  have h_1 := (hs12 1 (by decide)).trans h_1
  have h_2 := (hs12 2 (by decide)).trans h_2
  have h_3 := (hs12 3 (by decide)).trans h_3
  have h_4 := (hs12 4 (by decide)).trans h_4
  have h_5 := (hs12 5 (by decide)).trans h_5
  have h_6 := (hs12 6 (by decide)).trans h_6
  have h_7 := (hs12 7 (by decide)).trans h_7
  have h_8 := (hs12 8 (by decide)).trans h_8
  have h_9 := (hs12 9 (by decide)).trans h_9
  have h_10 := (hs12 10 (by decide)).trans h_10
  have h_11 := (hs12 11 (by decide)).trans h_11
  have hbs : ∀ i, i < 0 → σ12 i = σ0 i := fun i hi => (hs12 i (by omega)).trans (hbs i hi)
  have hba : ∀ i, i < 1 → ad12 i = ad i := fun i hi => (ha12 i (by omega)).trans (hba i hi)
  have hn3 : ∀ i, i < 10 → ad12 i = ad6 i := fun i hi => (ha12 i (by omega)).trans (hn3 i hi)
  have hn10 : ∀ i, i < 12 → ad12 i = ad9 i := fun i hi => (ha12 i (by omega)).trans (hn10 i hi)
  have hn12 : ∀ i, i < 14 → ad12 i = ad12 i := fun _ _ => rfl
  rw [show ad11 12 = q11 from (ha12 12 (by omega)).symm.trans g12]
  rw [← g0]
  refine zputF hx hb inlX6 tyX6 tyX6_ok nmX6 rfl 4 rfl zk_t1_153 rfl hname rfl hts hown hK hH (show 0 < 14 by omega) h_0 rfl rfl rfl dX6_init_51 (fun σ13 H13 l13 h_0 hs13 hH => ?_)
  have h_0 : σ13 0 = .inr (6, [.ref q1, .ref q3, .ref q5, .ref q8, .ref q11, .null, .int 0, .int 0, .int 0]) := h_0
  have h_1 := (hs13 1 (by decide)).trans h_1
  have h_2 := (hs13 2 (by decide)).trans h_2
  have h_3 := (hs13 3 (by decide)).trans h_3
  have h_4 := (hs13 4 (by decide)).trans h_4
  have h_5 := (hs13 5 (by decide)).trans h_5
  have h_6 := (hs13 6 (by decide)).trans h_6
  have h_7 := (hs13 7 (by decide)).trans h_7
  have h_8 := (hs13 8 (by decide)).trans h_8
  have h_9 := (hs13 9 (by decide)).trans h_9
  have h_10 := (hs13 10 (by decide)).trans h_10
  have h_11 := (hs13 11 (by decide)).trans h_11
  have h_12 := (hs13 12 (by decide)).trans h_12
  have h_13 := (hs13 13 (by decide)).trans h_13
  have hbs : ∀ i, i < 0 → σ13 i = σ0 i := fun i hi => (hs13 i (by omega)).trans (hbs i hi)
  refine lv_aload_n hx hb dX6_init_54 rfl (lv_at hl 0 rfl) ?_
  refine znew hx hb hts inlX1 tyX1 tyX1_ok hown zk_t1_115 zk_t1_116 zk_t1_5 hK hH hA (ci := 1) rfl (fs := [.null, .null, .null, .null, .int 0, .int 0, .int 0, .int 0]) (fun j hj => match j, hj with | 0, _ => rfl | 1, _ => rfl | 2, _ => rfl | 3, _ => rfl | 4, _ => rfl | 5, _ => rfl | 6, _ => rfl | 7, _ => rfl | q + 8, h => absurd h (by omega)) (Nat.le_of_ble_eq_true rfl) (Nat.le_of_ble_eq_true rfl) dX6_init_55 (fun q14 ad14 σ14 H14 ha14 gq hs14 h_14 hH => ?_)
  have g14 : ad14 14 = q14 := gq
  have g0 := (ha14 0 (by decide)).trans g0
  have g1 := (ha14 1 (by decide)).trans g1
  have g2 := (ha14 2 (by decide)).trans g2
  have g3 := (ha14 3 (by decide)).trans g3
  have g10 := (ha14 10 (by decide)).trans g10
  have g12 := (ha14 12 (by decide)).trans g12
  have h_0 := (hs14 0 (by decide)).trans h_0
  have h_1 := (hs14 1 (by decide)).trans h_1
  have h_2 := (hs14 2 (by decide)).trans h_2
  have h_3 := (hs14 3 (by decide)).trans h_3
  have h_4 := (hs14 4 (by decide)).trans h_4
  have h_5 := (hs14 5 (by decide)).trans h_5
  have h_6 := (hs14 6 (by decide)).trans h_6
  have h_7 := (hs14 7 (by decide)).trans h_7
  have h_8 := (hs14 8 (by decide)).trans h_8
  have h_9 := (hs14 9 (by decide)).trans h_9
  have h_10 := (hs14 10 (by decide)).trans h_10
  have h_11 := (hs14 11 (by decide)).trans h_11
  have h_12 := (hs14 12 (by decide)).trans h_12
  have h_13 := (hs14 13 (by decide)).trans h_13
  have hbs : ∀ i, i < 0 → σ14 i = σ0 i := fun i hi => (hs14 i (by omega)).trans (hbs i hi)
  have hba : ∀ i, i < 1 → ad14 i = ad i := fun i hi => (ha14 i (by omega)).trans (hba i hi)
  have hn3 : ∀ i, i < 10 → ad14 i = ad6 i := fun i hi => (ha14 i (by omega)).trans (hn3 i hi)
  have hn10 : ∀ i, i < 12 → ad14 i = ad9 i := fun i hi => (ha14 i (by omega)).trans (hn10 i hi)
  have hn12 : ∀ i, i < 14 → ad14 i = ad12 i := fun i hi => (ha14 i (by omega)).trans (hn12 i hi)
  refine lv_dup hx hb dX6_init_58 rfl ?_
  rw [← g14]
  refine zcIn (k := 14) (As := []) (rest := [.ref (ad14 14), .ref h0]) hx hb hml hown hts hl.1 hK hH hA (c_X1_init (zD_inj hH.2.1) h_14) (Nat.le_of_ble_eq_true rfl) (host := RX6) (List.mem_of_getElem? (i := 3) rfl) zk_t1_118 zk_t1_5 zk_t1_119 rfl hd_X1_init rfl ⟨rfl, rfl, Nat.le_of_ble_eq_true rfl, Nat.le_of_ble_eq_true rfl⟩ ⟨Nat.le_of_ble_eq_true rfl, Nat.le_of_ble_eq_true rfl⟩ rfl (Nat.le_of_ble_eq_true rfl) dX6_init_59 (fun ad15 σ15 H15 l15 ha15 hp hH => ?_)
  obtain ⟨h_14, h_15, h_16, h_17, h_18, hs15⟩ := hp
  have g0 := (ha15 0 (by decide)).trans g0
  have g1 := (ha15 1 (by decide)).trans g1
  have g2 := (ha15 2 (by decide)).trans g2
  have g3 := (ha15 3 (by decide)).trans g3
  have g10 := (ha15 10 (by decide)).trans g10
  have g12 := (ha15 12 (by decide)).trans g12
  have g14 := (ha15 14 (by decide)).trans g14
  have h_0 := (hs15 0 (by decide)).trans h_0
  have h_1 := (hs15 1 (by decide)).trans h_1
  have h_2 := (hs15 2 (by decide)).trans h_2
  have h_3 := (hs15 3 (by decide)).trans h_3
  have h_4 := (hs15 4 (by decide)).trans h_4
  have h_5 := (hs15 5 (by decide)).trans h_5
  have h_6 := (hs15 6 (by decide)).trans h_6
  have h_7 := (hs15 7 (by decide)).trans h_7
  have h_8 := (hs15 8 (by decide)).trans h_8
  have h_9 := (hs15 9 (by decide)).trans h_9
  have h_10 := (hs15 10 (by decide)).trans h_10
  have h_11 := (hs15 11 (by decide)).trans h_11
  have h_12 := (hs15 12 (by decide)).trans h_12
  have h_13 := (hs15 13 (by decide)).trans h_13
  have hbs : ∀ i, i < 0 → σ15 i = σ0 i := fun i hi => (hs15 i (by omega)).trans (hbs i hi)
  have hba : ∀ i, i < 1 → ad15 i = ad i := fun i hi => (ha15 i (by omega)).trans (hba i hi)
  have hn3 : ∀ i, i < 10 → ad15 i = ad6 i := fun i hi => (ha15 i (by omega)).trans (hn3 i hi)
  have hn10 : ∀ i, i < 12 → ad15 i = ad9 i := fun i hi => (ha15 i (by omega)).trans (hn10 i hi)
  have hn12 : ∀ i, i < 14 → ad15 i = ad12 i := fun i hi => (ha15 i (by omega)).trans (hn12 i hi)
  have hn14 : ∀ i, i < 19 → ad15 i = ad15 i := fun _ _ => rfl
  rw [show ad14 14 = q14 from (ha15 14 (by omega)).symm.trans g14]
  rw [← g0]
  refine zputF hx hb inlX6 tyX6 tyX6_ok nmX6 rfl 5 rfl zk_t1_154 rfl hname rfl hts hown hK hH (show 0 < 19 by omega) h_0 rfl rfl rfl dX6_init_62 (fun σ16 H16 l16 h_0 hs16 hH => ?_)
  have h_0 : σ16 0 = .inr (6, [.ref q1, .ref q3, .ref q5, .ref q8, .ref q11, .ref q14, .int 0, .int 0, .int 0]) := h_0
  have h_1 := (hs16 1 (by decide)).trans h_1
  have h_2 := (hs16 2 (by decide)).trans h_2
  have h_3 := (hs16 3 (by decide)).trans h_3
  have h_4 := (hs16 4 (by decide)).trans h_4
  have h_5 := (hs16 5 (by decide)).trans h_5
  have h_6 := (hs16 6 (by decide)).trans h_6
  have h_7 := (hs16 7 (by decide)).trans h_7
  have h_8 := (hs16 8 (by decide)).trans h_8
  have h_9 := (hs16 9 (by decide)).trans h_9
  have h_10 := (hs16 10 (by decide)).trans h_10
  have h_11 := (hs16 11 (by decide)).trans h_11
  have h_12 := (hs16 12 (by decide)).trans h_12
  have h_13 := (hs16 13 (by decide)).trans h_13
  have h_14 := (hs16 14 (by decide)).trans h_14
  have h_15 := (hs16 15 (by decide)).trans h_15
  have h_16 := (hs16 16 (by decide)).trans h_16
  have h_17 := (hs16 17 (by decide)).trans h_17
  have h_18 := (hs16 18 (by decide)).trans h_18
  have hbs : ∀ i, i < 0 → σ16 i = σ0 i := fun i hi => (hs16 i (by omega)).trans (hbs i hi)
  refine lv_aload_n hx hb dX6_init_65 rfl (lv_at hl 0 rfl) ?_
  refine lv_bipush (v := zI 8) hx hb dX6_init_66 (by decide +kernel) ?_
  rw [← g0]
  refine zput hx hb inlX6 tyX6 tyX6_ok nmX6 rfl 7 rfl zk_t1_156 rfl hts hown hK hH (show 0 < 19 by omega) h_0 rfl rfl rfl dX6_init_68 (fun σ17 H17 l17 h_0 hs17 hH => ?_)
  have h_0 : σ17 0 = .inr (6, [.ref q1, .ref q3, .ref q5, .ref q8, .ref q11, .ref q14, .int 0, .int (zI 8), .int 0]) := h_0
  have h_1 := (hs17 1 (by decide)).trans h_1
  have h_2 := (hs17 2 (by decide)).trans h_2
  have h_3 := (hs17 3 (by decide)).trans h_3
  have h_4 := (hs17 4 (by decide)).trans h_4
  have h_5 := (hs17 5 (by decide)).trans h_5
  have h_6 := (hs17 6 (by decide)).trans h_6
  have h_7 := (hs17 7 (by decide)).trans h_7
  have h_8 := (hs17 8 (by decide)).trans h_8
  have h_9 := (hs17 9 (by decide)).trans h_9
  have h_10 := (hs17 10 (by decide)).trans h_10
  have h_11 := (hs17 11 (by decide)).trans h_11
  have h_12 := (hs17 12 (by decide)).trans h_12
  have h_13 := (hs17 13 (by decide)).trans h_13
  have h_14 := (hs17 14 (by decide)).trans h_14
  have h_15 := (hs17 15 (by decide)).trans h_15
  have h_16 := (hs17 16 (by decide)).trans h_16
  have h_17 := (hs17 17 (by decide)).trans h_17
  have h_18 := (hs17 18 (by decide)).trans h_18
  have hbs : ∀ i, i < 0 → σ17 i = σ0 i := fun i hi => (hs17 i (by omega)).trans (hbs i hi)
  exact zretn hx hb hr hlocks hQ hH ⟨hba, (by (rw [h_0, ← g1, ← g2, ← g3, ← g10, ← g12, ← g14]) <;> rfl), h_1, h_2, (by (rw [h_3]) <;> simp only [oC_pl, hn3 4 (by decide), hn3 5 (by decide), hn3 6 (by decide), hn3 7 (by decide), hn3 8 (by decide), hn3 9 (by decide)]), h_4, h_5, h_6, h_7, h_8, h_9, (by (rw [h_10]) <;> simp only [oC_ra, hn10 11 (by decide)]), h_11, (by (rw [h_12]) <;> simp only [oC_pa, hn12 13 (by decide)]), h_13, (by (rw [h_14]) <;> simp only [oC_ma, hn14 15 (by decide), hn14 16 (by decide), hn14 17 (by decide), hn14 18 (by decide)]), h_15, h_16, h_17, h_18, hbs⟩ dX6_init_71
