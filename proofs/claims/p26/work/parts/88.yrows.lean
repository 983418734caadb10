/-! ===== an object in the heap by its value; calls over any assertion of the heap ===== -/
def zPairs : List (String × String) := [("java/lang/IllegalArgumentException", "java/lang/IllegalStateException"), ("java/lang/IllegalArgumentException", "java/lang/IndexOutOfBoundsException"), ("java/lang/IllegalStateException", "java/lang/IllegalArgumentException"), ("java/lang/IllegalStateException", "java/lang/IndexOutOfBoundsException"), ("java/lang/IndexOutOfBoundsException", "java/lang/IllegalArgumentException"), ("java/lang/IndexOutOfBoundsException", "java/lang/IllegalStateException")]
def zNc (s : State) : Prop := ∀ q ∈ zPairs, va_Nc q.1 q.2 s
theorem zNc.warm {s U : State} (hW : s.WarmedH U.vm) (h : zNc s) : zNc U := fun q hq => va_Nc.moved hW.alike (h q hq)
theorem zcast {E : String} {s : State} {args : Array Value} {A : Nat → Prop} {H : Heap} (hX : zXs A s H) (h : Cond.castable E E ∈ zBad) : (Cond.castable E E).before args s = true := va_Nw.use (zBad_w h).1 (hX.2.2.2 _ h)
theorem zcb_1 : Cond.castable "java/lang/IllegalArgumentException" "java/lang/IllegalArgumentException" ∈ zBad := List.mem_filter.mpr ⟨by decide +kernel, by decide +kernel⟩
theorem zcb_2 : Cond.castable "java/lang/IllegalStateException" "java/lang/IllegalStateException" ∈ zBad := List.mem_filter.mpr ⟨by decide +kernel, by decide +kernel⟩
theorem zcb_3 : Cond.castable "java/lang/IndexOutOfBoundsException" "java/lang/IndexOutOfBoundsException" ∈ zBad := List.mem_filter.mpr ⟨by decide +kernel, by decide +kernel⟩
/-- a start: the heap's assertion B, what may change (fr), what the tables give -/
def yPc (D : va_G) (T : List (ClassId × FieldType)) (sz : Nat) (fr : Nat → Prop) (B : Heap → Prop) (av : List Value) : Array Value → State → Prop := va_Pc av (fun U => U.heap.size = sz ∧ B U.heap ∧ zK D T U ∧ zXs fr U U.heap ∧ zNc U)
theorem yPc_blind {D : va_G} {T : List (ClassId × FieldType)} {sz : Nat} {fr : Nat → Prop} {B : Heap → Prop} {av : List Value} : FrameBlind (yPc D T sz fr B av) := fun a U g mk q => by
  obtain ⟨q0, q1, qB, qK, qX, qN⟩ := q
  have hW : U.vm.Alike (U.calling g mk a).vm := Vm.Alike.refl U.vm
  refine ⟨q0, q1, qB, ⟨va_K.moved (u := U) (U := U.calling g mk a) hW qK.1, qK.2.same (U := U.calling g mk a) rfl⟩, ?_, fun q hq => va_Nc.moved (u := U) (U := U.calling g mk a) hW (qN q hq)⟩
  exact ⟨vx_Zq.moved (u := U) (U := U.calling g mk a) hW qX.1, vx_Zq.moved (u := U) (U := U.calling g mk a) hW qX.2.1, fun q hq => (qX.2.2.1 q hq).imp (fun _ z => vk_R.same (u := U) (U := U.calling g mk a) rfl z), fun w hw => va_Nw.same (u := U) (U := U.calling g mk a) (zBad_w hw).1 rfl (qX.2.2.2 w hw)⟩
/-- a contract under other words -/
theorem yMetC {l : Launch} {y : MethodName} {ws : List Cond} {rm : Room} {P' : Array Value → State → Prop} {Q' : Array Value → State → Outcome → State → Prop} {mc ms : Nat} {free' : Addr → Prop}
    (h : ∀ a s, P' a s → ∃ (P : Array Value → State → Prop) (Q : Array Value → State → Outcome → State → Prop) (free : Addr → Prop), Met l y ws rm P Q mc ms free ∧ P a s ∧ (∀ o t, Q a s o t → Q' a s o t) ∧ ∀ q, free q → free' q) : Met l y ws rm P' Q' mc ms free' := by
  intro p e ha hc hk s m args below hf happ hP hK
  obtain ⟨P, Q, free, hM, hp, hQ, hfr⟩ := h _ _ hP
  obtain ⟨n, o, h1, h2, h3, h4, L, h5, h6⟩ := hM p e ha hc hk s m args below hf happ hp hK
  exact ⟨n, o, h1, h2, h3, hQ _ _ h4, L, h5, fun q hq => hfr _ (h6 q hq)⟩
theorem yMetCX {l : Launch} {y : MethodName} {ws : List Cond} {rm : Room} {P' : Array Value → State → Prop} {Q' : Array Value → State → Outcome → State → Prop} {XC' : String → State → State → Prop} {mc ms : Nat} {free' : Addr → Prop}
    (h : ∀ a s, P' a s → ∃ (P : Array Value → State → Prop) (Q : Array Value → State → Outcome → State → Prop) (XC : String → State → State → Prop) (free : Addr → Prop), vx_Met l y ws rm P Q XC mc ms free ∧ P a s ∧ (∀ o t, Q a s o t → Q' a s o t) ∧ (∀ E t, XC E s t → XC' E s t) ∧ ∀ q, free q → free' q) : vx_Met l y ws rm P' Q' XC' mc ms free' := by
  intro p e ha hc hk s m args below hf happ hP hK
  obtain ⟨P, Q, XC, free, hM, hp, hQ, hX, hfr⟩ := h _ _ hP
  obtain ⟨n, o, h1, h2, h3, h4⟩ := hM p e ha hc hk s m args below hf happ hp hK
  refine ⟨n, o, h1, h2, h3, ?_⟩
  rcases h4 with ⟨h4, L, h5, h6⟩ | ⟨q, h4, E, ce, L, k1, k2, k3, k4, k5, k6, k7⟩
  · exact Or.inl ⟨hQ _ _ h4, L, h5, fun q hq => hfr _ (h6 q hq)⟩
  · exact Or.inr ⟨q, h4, E, ce, L, hX _ _ k1, k2, k3, k4, k5, k6, fun z hz => hfr _ (k7 z hz)⟩
/-- the cells of an object hold its value, and rows of their own -/
def yCf (cI cZ cF : ClassId) (ad : Nat → Nat) (σ : Nat → va_E) (S : yS) (w : Int → Int) (pl : Int) (cr : Int → Int → Int) (cn : Int → Int) (dr : Int → Int) (xs : Int → Int → Int) (ys : Int → Int → Int) (sz : Int → Int) (k : Int → Int) (x : Int → Int) (y : Int → Int) (o : Int → Int) (kc : Int → Int) (th : Int → Int) (m : Int) (sec : UInt32) (nx : Int) (ny : Int) (now : Int) (rc : Int → Int) (rn : Int) (pb : Int → Int) (fp : Int) (sr : Int) (sa : Int → Int) (br : Int → Int) (ba : Int → Int) (st : Int → Int) : Prop := σ 0 = oC_sp ad (S.1.1) (S.2.1) pl ∧ σ 1 = .inl (cF, 8, .inr (.inr (.inr (.inr (zFA ad S.1.1))))) ∧ σ 2 = .inl (cZ, 8, .inl (zA w)) ∧ σ 3 = oC_pl ad m sec nx ny now ∧ σ 4 = .inl (cI, 16641, .inl (zA k)) ∧ σ 5 = .inl (cI, 16641, .inl (zA x)) ∧ σ 6 = .inl (cI, 16641, .inl (zA y)) ∧ σ 7 = .inl (cI, 16641, .inl (zA o)) ∧ σ 8 = .inl (cI, 5, .inl (zA kc)) ∧ σ 9 = .inl (cI, 6, .inl (zA th)) ∧ σ 10 = oC_ra ad rn ∧ σ 11 = .inl (cZ, 1024, .inl (zA rc)) ∧ σ 12 = oC_pa ad (S.2.2.1.1) (S.2.2.1.2.1) fp sr ∧ σ 13 = .inl (cI, 49924, .inl (zA pb)) ∧ σ 14 = oC_ma ad (S.2.2.2.1) (S.2.2.2.2.1) (S.2.2.2.2.2.1) (S.2.2.2.2.2.2.1) ∧ σ 15 = .inl (cI, 16642, .inl (zA sa)) ∧ σ 16 = .inl (cZ, 4, .inl (zA br)) ∧ σ 17 = .inl (cI, 4, .inl (zA ba)) ∧ σ 18 = .inl (cI, 4, .inl (zA st)) ∧ zFF ad cI S.1.1 σ (S.1.2.1) (S.1.2.2.1) (S.1.2.2.2.1) (S.1.2.2.2.2.1) (S.1.2.2.2.2.2.1) cr (S.1.2.2.2.2.2.2.1) cn (S.1.2.2.2.2.2.2.2.1) (S.1.2.2.2.2.2.2.2.2.1) (S.1.2.2.2.2.2.2.2.2.2.1) (S.1.2.2.2.2.2.2.2.2.2.2.1) (S.1.2.2.2.2.2.2.2.2.2.2.2) dr xs ys sz
abbrev yNo (S : yS) : Nat := 19 + 7 * S.1.1.toNat
/-- an object at q, in the cells F, of the value S -/
def yOb (D : va_G) (cI cZ cF : ClassId) (q : Nat) (F : Nat → Prop) (S : yS) (H : Heap) : Prop := ∃ (ad : Nat → Nat) (σ : Nat → va_E) (w : Int → Int) (pl : Int) (cr : Int → Int → Int) (cn : Int → Int) (dr : Int → Int) (xs : Int → Int → Int) (ys : Int → Int → Int) (sz : Int → Int) (k : Int → Int) (x : Int → Int) (y : Int → Int) (o : Int → Int) (kc : Int → Int) (th : Int → Int) (m : Int) (sec : UInt32) (nx : Int) (ny : Int) (now : Int) (rc : Int → Int) (rn : Int) (pb : Int → Int) (fp : Int) (sr : Int) (sa : Int → Int) (br : Int → Int) (ba : Int → Int) (st : Int → Int), (∀ i j, i < yNo S → j < yNo S → ad i = ad j → i = j) ∧ ad 0 = q ∧ (∀ x, F x ↔ ∃ k, k < yNo S ∧ x = ad k) ∧ va_P D vwCl (zl ad (yNo S) σ) H ∧ yCf cI cZ cF ad σ S w pl cr cn dr xs ys sz k x y o kc th m sec nx ny now rc rn pb fp sr sa br ba st ∧ yIv S pl dr xs ys sz k x y o kc th m sec pb sa br ba st
abbrev yFr (F : Nat → Prop) (sz : Nat) : Nat → Prop := fun x => F x ∨ sz ≤ x
theorem yOb_lt {D : va_G} {cI cZ cF : ClassId} {q : Nat} {F : Nat → Prop} {S : yS} {H : Heap} (h : yOb D cI cZ cF q F S H) {x9 : Nat} (hx : F x9) : x9 < H.size := by
  obtain ⟨ad, σ, w, pl, cr, cn, dr, xs, ys, sz, k, x, y, o, kc, th, m, sec, nx, ny, now, rc, rn, pb, fp, sr, sa, br, ba, st, h1, h2, h3, h4, h5⟩ := h
  obtain ⟨k, hk, rfl⟩ := (h3 x9).mp hx
  exact zl_lt h4 hk
theorem yOb_kept {D : va_G} {cI cZ cF : ClassId} {q : Nat} {F : Nat → Prop} {S : yS} {H H1 : Heap} (h : yOb D cI cZ cF q F S H) (hk : ∀ x, F x → H1[x]? = H[x]?) : yOb D cI cZ cF q F S H1 := by
  obtain ⟨ad, σ, w, pl, cr, cn, dr, xs, ys, sz, k, x, y, o, kc, th, m, sec, nx, ny, now, rc, rn, pb, fp, sr, sa, br, ba, st, h1, h2, h3, h4, h5⟩ := h
  refine ⟨ad, σ, w, pl, cr, cn, dr, xs, ys, sz, k, x, y, o, kc, th, m, sec, nx, ny, now, rc, rn, pb, fp, sr, sa, br, ba, st, h1, h2, h3, h4.kept (fun k e he => ?_), h5⟩
  by_cases hN : k < yNo S
  · rw [zl_at hN] at he
    cases he
    exact hk _ ((h3 _).mpr ⟨k, hN, rfl⟩)
  · rw [zl_none hN] at he
    cases he
theorem yOb_wf {D : va_G} {cI cZ cF : ClassId} {q : Nat} {F : Nat → Prop} {S : yS} {H : Heap} (h : yOb D cI cZ cF q F S H) : yWf S := by
  obtain ⟨ad, σ, w, pl, cr, cn, dr, xs, ys, sz, k, x, y, o, kc, th, m, sec, nx, ny, now, rc, rn, pb, fp, sr, sa, br, ba, st, h1, h2, h3, h4, h5, h6⟩ := h
  exact h6.1
theorem yOb_recv {s : State} {D : va_G} {cI cZ cF : ClassId} {T : List (ClassId × FieldType)} {q : Nat} {F : Nat → Prop} {S : yS} {H : Heap} (hK : zK D T s) (h : yOb D cI cZ cF q F S H) : ∃ cell : Cell, H[q]? = some cell ∧ cell.vm.isStatics = false ∧ s.vm.findClass RX6 = some cell.cls := by
  obtain ⟨ad, σ, w, pl, cr, cn, dr, xs, ys, sz, k, x, y, o, kc, th, m, sec, nx, ny, now, rc, rn, pb, fp, sr, sa, br, ba, st, h1, h2, h3, h4, h5, h6⟩ := h
  have hr := va_recv hK.1 h4 (show vwCl[6]? = some (RX6, TX6, 9) from rfl) (zl_atE (k := 0) (by show 0 < 19 + 7 * _; omega) h5.1)
  rw [h2] at hr
  exact hr
/-- an end: the answer, the object's new cells and value -/
abbrev yPo (F : Nat → Prop) (sz : Nat) (F' : Nat → Prop) : Prop := (∀ x, F x → F' x) ∧ ∀ x, F' x → F x ∨ sz ≤ x
def yQi (D : va_G) (cI cZ cF : ClassId) (q : Nat) (F : Nat → Prop) (sz : Nat) (P : Int32 → Prop) (S' : yS) : Array Value → State → Outcome → State → Prop := va_Qi (fun (r : Int32) (F' : Nat → Prop) => P r ∧ yPo F sz F') (fun F' t => yOb D cI cZ cF q F' S' t.heap) (yFr F sz)
def yQf (D : va_G) (cI cZ cF : ClassId) (q : Nat) (F : Nat → Prop) (sz : Nat) (P : UInt32 → Prop) (S' : yS) : Array Value → State → Outcome → State → Prop := va_Qf (fun (r : UInt32) (F' : Nat → Prop) => P r ∧ yPo F sz F') (fun F' t => yOb D cI cZ cF q F' S' t.heap) (yFr F sz)
def yQv (D : va_G) (cI cZ cF : ClassId) (q : Nat) (F : Nat → Prop) (sz : Nat) (P : Prop) (S' : yS) : Array Value → State → Outcome → State → Prop := va_Qv (fun (F' : Nat → Prop) => P ∧ yPo F sz F') (fun F' t => yOb D cI cZ cF q F' S' t.heap) (yFr F sz)
def yXC (D : va_G) (cI cZ cF : ClassId) (q : Nat) (F : Nat → Prop) (sz : Nat) (tc : Int) (S' : yS) : String → State → State → Prop := vx_X (fun (F' : Nat → Prop) => yPo F sz F') (fun E F' u => zEx E tc ∧ yOb D cI cZ cF q F' S' u.heap) (yFr F sz)
theorem yFr_of {ad : Nat → Nat} {F : Nat → Prop} {N sz x : Nat} (h : ∀ x, F x ↔ ∃ k, k < N ∧ x = ad k) : zFr ad N sz x ↔ yFr F sz x := by
  constructor
  · rintro (q | q)
    · exact Or.inl ((h x).mpr q)
    · exact Or.inr q
  · rintro (q | q)
    · exact Or.inl ((h x).mp q)
    · exact Or.inr q
theorem yF_of {ad : Nat → Nat} {F : Nat → Prop} {N sz : Nat} {s t : State} (h : ∀ x, F x ↔ ∃ k, k < N ∧ x = ad k) (hF : va_F (zFr ad N sz) s t) : va_F (yFr F sz) s t := ⟨hF.1, fun q h1 h2 => hF.2 q h1 (fun z => h2 ((yFr_of h).mp z))⟩
theorem yPo_rf {F : Nat → Prop} {sz : Nat} : yPo F sz F := ⟨fun _ h => h, fun _ h => Or.inl h⟩
section YR
variable {p : Program} {l : Launch} {e : Env} {R : Room} {s : State} {m : MethodId} {args : Array Value} {below : List Frame} {meth : Method} {c : Code} {H : Heap} {locs : List Loc} {cells slots : Nat} {Q : State → Prop}
variable {cc : ByteArray} {pc : Nat} {ls : Array Slot} {rest : List Value} {D : va_G} {T : List (ClassId × FieldType)} {A : Nat → Prop} {H0 : Heap}
theorem ycVi {y : MethodName} {bytes : ByteArray} {maxL nL n index : Nat} {ret : Option FieldType} {own : String} {rm : Room} {As st0 : List Value} {C : String} {b : Nat} {mc1 ms1 : Nat} {U : Type} {post : Int32 → U → Prop} {Bp : Heap → Prop} {Bq : U → Heap → Prop} {fr : Nat → Prop} (hx : p.tables.exec = Jvm.exec) (hb : c.code = cc) (hml : c.maxLocals = nL) (hown : s.vm.findClass own = some m.cls) (hts : ∀ w ∈ wsL_law, w.before args s = true) (hsz : ls.size = nL) (hK : zK D T s) (hX : zXs A s H) (hNc : zNc s) (hB : Bp H) (hfr : ∀ q, fr q → A q) (hS : va_S A H0 H locs)
    (hM : Met l y (Cond.code y bytes maxL ret :: wsL_law) rm (yPc D T H.size fr Bp (.ref b :: As)) (va_Qi post (fun u t => Bq u t.heap) fr) mc1 ms1 fr)
    (h1 : Cond.methodLink own index y ∈ wsL_law) (h2 : Cond.instanceMethod y ∈ wsL_law) (h3 : Cond.selects C y y ∈ wsL_law) (h4 : Cond.initialized C ∈ wsL_law) (h5 : Cond.code y bytes maxL ret ∈ wsL_law)
    (hd : y.cls = C ∧ y.cls ≠ "java/lang/invoke/MethodHandle" ∧ y.cls ≠ "java/lang/invoke/VarHandle" ∧ (parseMethodDescriptor y.desc).map (fun d => d.parameters.length) = some n) (hn : As.length = n) (hR : rm.cells = mc1 ∧ rm.slots = ms1 ∧ rm.frames + 1 ≤ R.frames ∧ 8 + (maxL + 11) + rm.locals ≤ R.locals) (hcs : cells + mc1 ≤ R.cells ∧ slots + ms1 ≤ R.slots) (hrv : ∃ cell : Cell, H[b]? = some cell ∧ cell.vm.isStatics = false ∧ s.vm.findClass C = some cell.cls) (hst : st0 = As.reverse ++ .ref b :: rest) (hrest : (rest.map fun v => v.category).sum ≤ 8) (hdg : decode cc pc = .ok (.invokevirtual index, 3))
    (kk : ∀ (r : Int32) (u : U) (H1 : Heap) (locs1 : List Loc), post r u → Bq u H1 → H.size ≤ H1.size → (∀ q, q < H.size → ¬ fr q → H1[q]? = H[q]?) → va_S A H0 H1 locs1 → W p l e R s m args below meth c H1 locs1 (cells + mc1) (slots + ms1) Q (F0 m (pc + 3) ls (.int r :: rest))) : W p l e R s m args below meth c H locs cells slots Q (F0 m pc ls st0) := by
  subst hst
  have cw : CallW R s args own C index y bytes maxL ret (Cond.code y bytes maxL ret :: wsL_law) rm mc1 ms1 n := cwV n hts (zk_in _ (fun w hw => by
    simp only [wsV, List.cons_append, List.nil_append, List.mem_cons] at hw
    rcases hw with rfl | rfl | rfl | rfl | rfl | hw <;> assumption)) rfl hR.1 hR.2.1 hd hR.2.2
  refine va_calli (va_runV (C := C) (As := As) (rest := rest) ⟨hx, hb, hml, hown, hts⟩ hM cw ⟨yPc_blind, hrv, fun U hU hW => ⟨rfl, by rw [hU], by rw [hU]; exact hB, hK.warm hW, by rw [hU]; exact (hX.narrow hfr).warm hW, hNc.warm hW⟩⟩ rfl hn hsz rfl (lv_room hrest) hdg hcs) hS (fun q _ h => hfr q h) hfr (fun r u t H1 locs1 ht hvm hw hB hz1 hk1 hS => ?_)
  rw [ht] at hB
  exact kk r u H1 locs1 hw hB hz1 hk1 hS
theorem ycVf {y : MethodName} {bytes : ByteArray} {maxL nL n index : Nat} {ret : Option FieldType} {own : String} {rm : Room} {As st0 : List Value} {C : String} {b : Nat} {mc1 ms1 : Nat} {U : Type} {post : UInt32 → U → Prop} {Bp : Heap → Prop} {Bq : U → Heap → Prop} {fr : Nat → Prop} (hx : p.tables.exec = Jvm.exec) (hb : c.code = cc) (hml : c.maxLocals = nL) (hown : s.vm.findClass own = some m.cls) (hts : ∀ w ∈ wsL_law, w.before args s = true) (hsz : ls.size = nL) (hK : zK D T s) (hX : zXs A s H) (hNc : zNc s) (hB : Bp H) (hfr : ∀ q, fr q → A q) (hS : va_S A H0 H locs)
    (hM : Met l y (Cond.code y bytes maxL ret :: wsL_law) rm (yPc D T H.size fr Bp (.ref b :: As)) (va_Qf post (fun u t => Bq u t.heap) fr) mc1 ms1 fr)
    (h1 : Cond.methodLink own index y ∈ wsL_law) (h2 : Cond.instanceMethod y ∈ wsL_law) (h3 : Cond.selects C y y ∈ wsL_law) (h4 : Cond.initialized C ∈ wsL_law) (h5 : Cond.code y bytes maxL ret ∈ wsL_law)
    (hd : y.cls = C ∧ y.cls ≠ "java/lang/invoke/MethodHandle" ∧ y.cls ≠ "java/lang/invoke/VarHandle" ∧ (parseMethodDescriptor y.desc).map (fun d => d.parameters.length) = some n) (hn : As.length = n) (hR : rm.cells = mc1 ∧ rm.slots = ms1 ∧ rm.frames + 1 ≤ R.frames ∧ 8 + (maxL + 11) + rm.locals ≤ R.locals) (hcs : cells + mc1 ≤ R.cells ∧ slots + ms1 ≤ R.slots) (hrv : ∃ cell : Cell, H[b]? = some cell ∧ cell.vm.isStatics = false ∧ s.vm.findClass C = some cell.cls) (hst : st0 = As.reverse ++ .ref b :: rest) (hrest : (rest.map fun v => v.category).sum ≤ 8) (hdg : decode cc pc = .ok (.invokevirtual index, 3))
    (kk : ∀ (r : UInt32) (u : U) (H1 : Heap) (locs1 : List Loc), post r u → Bq u H1 → H.size ≤ H1.size → (∀ q, q < H.size → ¬ fr q → H1[q]? = H[q]?) → va_S A H0 H1 locs1 → W p l e R s m args below meth c H1 locs1 (cells + mc1) (slots + ms1) Q (F0 m (pc + 3) ls (.float r :: rest))) : W p l e R s m args below meth c H locs cells slots Q (F0 m pc ls st0) := by
  subst hst
  have cw : CallW R s args own C index y bytes maxL ret (Cond.code y bytes maxL ret :: wsL_law) rm mc1 ms1 n := cwV n hts (zk_in _ (fun w hw => by
    simp only [wsV, List.cons_append, List.nil_append, List.mem_cons] at hw
    rcases hw with rfl | rfl | rfl | rfl | rfl | hw <;> assumption)) rfl hR.1 hR.2.1 hd hR.2.2
  refine va_callf (va_runV (C := C) (As := As) (rest := rest) ⟨hx, hb, hml, hown, hts⟩ hM cw ⟨yPc_blind, hrv, fun U hU hW => ⟨rfl, by rw [hU], by rw [hU]; exact hB, hK.warm hW, by rw [hU]; exact (hX.narrow hfr).warm hW, hNc.warm hW⟩⟩ rfl hn hsz rfl (lv_room hrest) hdg hcs) hS (fun q _ h => hfr q h) hfr (fun r u t H1 locs1 ht hvm hw hB hz1 hk1 hS => ?_)
  rw [ht] at hB
  exact kk r u H1 locs1 hw hB hz1 hk1 hS
theorem ycVv {y : MethodName} {bytes : ByteArray} {maxL nL n index : Nat} {ret : Option FieldType} {own : String} {rm : Room} {As st0 : List Value} {C : String} {b : Nat} {mc1 ms1 : Nat} {U : Type} {post : U → Prop} {Bp : Heap → Prop} {Bq : U → Heap → Prop} {fr : Nat → Prop} (hx : p.tables.exec = Jvm.exec) (hb : c.code = cc) (hml : c.maxLocals = nL) (hown : s.vm.findClass own = some m.cls) (hts : ∀ w ∈ wsL_law, w.before args s = true) (hsz : ls.size = nL) (hK : zK D T s) (hX : zXs A s H) (hNc : zNc s) (hB : Bp H) (hfr : ∀ q, fr q → A q) (hS : va_S A H0 H locs)
    (hM : Met l y (Cond.code y bytes maxL ret :: wsL_law) rm (yPc D T H.size fr Bp (.ref b :: As)) (va_Qv post (fun u t => Bq u t.heap) fr) mc1 ms1 fr)
    (h1 : Cond.methodLink own index y ∈ wsL_law) (h2 : Cond.instanceMethod y ∈ wsL_law) (h3 : Cond.selects C y y ∈ wsL_law) (h4 : Cond.initialized C ∈ wsL_law) (h5 : Cond.code y bytes maxL ret ∈ wsL_law)
    (hd : y.cls = C ∧ y.cls ≠ "java/lang/invoke/MethodHandle" ∧ y.cls ≠ "java/lang/invoke/VarHandle" ∧ (parseMethodDescriptor y.desc).map (fun d => d.parameters.length) = some n) (hn : As.length = n) (hR : rm.cells = mc1 ∧ rm.slots = ms1 ∧ rm.frames + 1 ≤ R.frames ∧ 8 + (maxL + 11) + rm.locals ≤ R.locals) (hcs : cells + mc1 ≤ R.cells ∧ slots + ms1 ≤ R.slots) (hrv : ∃ cell : Cell, H[b]? = some cell ∧ cell.vm.isStatics = false ∧ s.vm.findClass C = some cell.cls) (hst : st0 = As.reverse ++ .ref b :: rest) (hrest : (rest.map fun v => v.category).sum ≤ 8) (hdg : decode cc pc = .ok (.invokevirtual index, 3))
    (kk : ∀ (u : U) (H1 : Heap) (locs1 : List Loc), post u → Bq u H1 → H.size ≤ H1.size → (∀ q, q < H.size → ¬ fr q → H1[q]? = H[q]?) → va_S A H0 H1 locs1 → W p l e R s m args below meth c H1 locs1 (cells + mc1) (slots + ms1) Q (F0 m (pc + 3) ls rest)) : W p l e R s m args below meth c H locs cells slots Q (F0 m pc ls st0) := by
  subst hst
  have cw : CallW R s args own C index y bytes maxL ret (Cond.code y bytes maxL ret :: wsL_law) rm mc1 ms1 n := cwV n hts (zk_in _ (fun w hw => by
    simp only [wsV, List.cons_append, List.nil_append, List.mem_cons] at hw
    rcases hw with rfl | rfl | rfl | rfl | rfl | hw <;> assumption)) rfl hR.1 hR.2.1 hd hR.2.2
  refine va_callv (va_runV (C := C) (As := As) (rest := rest) ⟨hx, hb, hml, hown, hts⟩ hM cw ⟨yPc_blind, hrv, fun U hU hW => ⟨rfl, by rw [hU], by rw [hU]; exact hB, hK.warm hW, by rw [hU]; exact (hX.narrow hfr).warm hW, hNc.warm hW⟩⟩ rfl hn hsz rfl (lv_room hrest) hdg hcs) hS (fun q _ h => hfr q h) hfr (fun u t H1 locs1 ht hvm hw hB hz1 hk1 hS => ?_)
  rw [ht] at hB
  exact kk u H1 locs1 hw hB hz1 hk1 hS
theorem ycVl {y : MethodName} {bytes : ByteArray} {maxL nL n index : Nat} {ret : Option FieldType} {own : String} {rm : Room} {As st0 : List Value} {C : String} {b : Nat} {mc1 ms1 : Nat} {U : Type} {post : Int64 → U → Prop} {Bp : Heap → Prop} {Bq : U → Heap → Prop} {fr : Nat → Prop} (hx : p.tables.exec = Jvm.exec) (hb : c.code = cc) (hml : c.maxLocals = nL) (hown : s.vm.findClass own = some m.cls) (hts : ∀ w ∈ wsL_law, w.before args s = true) (hsz : ls.size = nL) (hK : zK D T s) (hX : zXs A s H) (hNc : zNc s) (hB : Bp H) (hfr : ∀ q, fr q → A q) (hS : va_S A H0 H locs)
    (hM : Met l y (Cond.code y bytes maxL ret :: wsL_law) rm (yPc D T H.size fr Bp (.ref b :: As)) (va_Ql post (fun u t => Bq u t.heap) fr) mc1 ms1 fr)
    (h1 : Cond.methodLink own index y ∈ wsL_law) (h2 : Cond.instanceMethod y ∈ wsL_law) (h3 : Cond.selects C y y ∈ wsL_law) (h4 : Cond.initialized C ∈ wsL_law) (h5 : Cond.code y bytes maxL ret ∈ wsL_law)
    (hd : y.cls = C ∧ y.cls ≠ "java/lang/invoke/MethodHandle" ∧ y.cls ≠ "java/lang/invoke/VarHandle" ∧ (parseMethodDescriptor y.desc).map (fun d => d.parameters.length) = some n) (hn : As.length = n) (hR : rm.cells = mc1 ∧ rm.slots = ms1 ∧ rm.frames + 1 ≤ R.frames ∧ 8 + (maxL + 11) + rm.locals ≤ R.locals) (hcs : cells + mc1 ≤ R.cells ∧ slots + ms1 ≤ R.slots) (hrv : ∃ cell : Cell, H[b]? = some cell ∧ cell.vm.isStatics = false ∧ s.vm.findClass C = some cell.cls) (hst : st0 = As.reverse ++ .ref b :: rest) (hrest : (rest.map fun v => v.category).sum ≤ 8) (hdg : decode cc pc = .ok (.invokevirtual index, 3))
    (kk : ∀ (r : Int64) (u : U) (H1 : Heap) (locs1 : List Loc), post r u → Bq u H1 → H.size ≤ H1.size → (∀ q, q < H.size → ¬ fr q → H1[q]? = H[q]?) → va_S A H0 H1 locs1 → W p l e R s m args below meth c H1 locs1 (cells + mc1) (slots + ms1) Q (F0 m (pc + 3) ls (.long r :: rest))) : W p l e R s m args below meth c H locs cells slots Q (F0 m pc ls st0) := by
  subst hst
  have cw : CallW R s args own C index y bytes maxL ret (Cond.code y bytes maxL ret :: wsL_law) rm mc1 ms1 n := cwV n hts (zk_in _ (fun w hw => by
    simp only [wsV, List.cons_append, List.nil_append, List.mem_cons] at hw
    rcases hw with rfl | rfl | rfl | rfl | rfl | hw <;> assumption)) rfl hR.1 hR.2.1 hd hR.2.2
  refine va_calll (va_runV (C := C) (As := As) (rest := rest) ⟨hx, hb, hml, hown, hts⟩ hM cw ⟨yPc_blind, hrv, fun U hU hW => ⟨rfl, by rw [hU], by rw [hU]; exact hB, hK.warm hW, by rw [hU]; exact (hX.narrow hfr).warm hW, hNc.warm hW⟩⟩ rfl hn hsz rfl (lv_room hrest) hdg hcs) hS (fun q _ h => hfr q h) hfr (fun r u t H1 locs1 ht hvm hw hB hz1 hk1 hS => ?_)
  rw [ht] at hB
  exact kk r u H1 locs1 hw hB hz1 hk1 hS
theorem ycxVi {y : MethodName} {bytes : ByteArray} {maxL nL n index : Nat} {ret : Option FieldType} {own : String} {rm : Room} {As st0 : List Value} {C : String} {b : Nat} {mc1 ms1 : Nat} {U : Type} {post : Int32 → U → Prop} {Bp : Heap → Prop} {Bq : U → Heap → Prop} {fr : Nat → Prop} {UX : Type} {tc : Int} {px : UX → Prop} {BX : UX → Heap → Prop} (hx : p.tables.exec = Jvm.exec) (hb : c.code = cc) (hml : c.maxLocals = nL) (hown : s.vm.findClass own = some m.cls) (hts : ∀ w ∈ wsL_law, w.before args s = true) (hsz : ls.size = nL) (hK : zK D T s) (hX : zXs A s H) (hNc : zNc s) (hB : Bp H) (hfr : ∀ q, fr q → A q) (hS : va_S A H0 H locs)
    (hM : vx_Met l y (Cond.code y bytes maxL ret :: wsL_law) rm (yPc D T H.size fr Bp (.ref b :: As)) (va_Qi post (fun u t => Bq u t.heap) fr) (vx_X px (fun E u t => zEx E tc ∧ BX u t.heap) fr) mc1 ms1 fr)
    (h1 : Cond.methodLink own index y ∈ wsL_law) (h2 : Cond.instanceMethod y ∈ wsL_law) (h3 : Cond.selects C y y ∈ wsL_law) (h4 : Cond.initialized C ∈ wsL_law) (h5 : Cond.code y bytes maxL ret ∈ wsL_law)
    (hd : y.cls = C ∧ y.cls ≠ "java/lang/invoke/MethodHandle" ∧ y.cls ≠ "java/lang/invoke/VarHandle" ∧ (parseMethodDescriptor y.desc).map (fun d => d.parameters.length) = some n) (hn : As.length = n) (hR : rm.cells = mc1 ∧ rm.slots = ms1 ∧ rm.frames + 1 ≤ R.frames ∧ 8 + (maxL + 11) + rm.locals ≤ R.locals) (hcs : cells + mc1 ≤ R.cells ∧ slots + ms1 ≤ R.slots) (hrv : ∃ cell : Cell, H[b]? = some cell ∧ cell.vm.isStatics = false ∧ s.vm.findClass C = some cell.cls) (hst : st0 = As.reverse ++ .ref b :: rest) (hrest : (rest.map fun v => v.category).sum ≤ 8) (hdg : decode cc pc = .ok (.invokevirtual index, 3))
    (kx : ∀ (E : String) (ce : Cell) (q9 : Addr) (u : UX) (H1 : Heap) (locs1 : List Loc), px u → zEx E tc → BX u H1 → H.size ≤ H1.size → (∀ q, q < H.size → ¬ fr q → H1[q]? = H[q]?) → va_S A H0 H1 locs1 → H1[q9]? = some ce → ce.vm = .none → s.vm.findClass E = some ce.cls → vx_W p l e R s m args below meth c H1 locs1 (cells + mc1) (slots + ms1) Q (F0 m pc ls rest) q9)
    (kk : ∀ (r : Int32) (u : U) (H1 : Heap) (locs1 : List Loc), post r u → Bq u H1 → H.size ≤ H1.size → (∀ q, q < H.size → ¬ fr q → H1[q]? = H[q]?) → va_S A H0 H1 locs1 → W p l e R s m args below meth c H1 locs1 (cells + mc1) (slots + ms1) Q (F0 m (pc + 3) ls (.int r :: rest))) : W p l e R s m args below meth c H locs cells slots Q (F0 m pc ls st0) := by
  subst hst
  have cw : CallW R s args own C index y bytes maxL ret (Cond.code y bytes maxL ret :: wsL_law) rm mc1 ms1 n := cwV n hts (zk_in _ (fun w hw => by
    simp only [wsV, List.cons_append, List.nil_append, List.mem_cons] at hw
    rcases hw with rfl | rfl | rfl | rfl | rfl | hw <;> assumption)) rfl hR.1 hR.2.1 hd hR.2.2
  refine vx_calli (vx_runV (C := C) (As := As) (rest := rest) ⟨hx, hb, hml, hown, hts⟩ hM cw ⟨yPc_blind, hrv, fun U hU hW => ⟨rfl, by rw [hU], by rw [hU]; exact hB, hK.warm hW, by rw [hU]; exact (hX.narrow hfr).warm hW, hNc.warm hW⟩⟩ rfl hn hsz rfl (lv_room hrest) hdg hcs) hS (fun q _ h => hfr q h) hfr (fun q _ h => hfr q h) (fun E ce q9 u t H1 locs1 ht hvm hw hB hz1 hk1 hS hce hcv hcl => ?_) (fun r u t H1 locs1 ht hvm hw hB hz1 hk1 hS => ?_)
  · rw [ht] at hB
    exact kx E ce q9 u H1 locs1 hw hB.1 hB.2 hz1 hk1 hS hce hcv hcl
  · rw [ht] at hB
    exact kk r u H1 locs1 hw hB hz1 hk1 hS
theorem ycxVf {y : MethodName} {bytes : ByteArray} {maxL nL n index : Nat} {ret : Option FieldType} {own : String} {rm : Room} {As st0 : List Value} {C : String} {b : Nat} {mc1 ms1 : Nat} {U : Type} {post : UInt32 → U → Prop} {Bp : Heap → Prop} {Bq : U → Heap → Prop} {fr : Nat → Prop} {UX : Type} {tc : Int} {px : UX → Prop} {BX : UX → Heap → Prop} (hx : p.tables.exec = Jvm.exec) (hb : c.code = cc) (hml : c.maxLocals = nL) (hown : s.vm.findClass own = some m.cls) (hts : ∀ w ∈ wsL_law, w.before args s = true) (hsz : ls.size = nL) (hK : zK D T s) (hX : zXs A s H) (hNc : zNc s) (hB : Bp H) (hfr : ∀ q, fr q → A q) (hS : va_S A H0 H locs)
    (hM : vx_Met l y (Cond.code y bytes maxL ret :: wsL_law) rm (yPc D T H.size fr Bp (.ref b :: As)) (va_Qf post (fun u t => Bq u t.heap) fr) (vx_X px (fun E u t => zEx E tc ∧ BX u t.heap) fr) mc1 ms1 fr)
    (h1 : Cond.methodLink own index y ∈ wsL_law) (h2 : Cond.instanceMethod y ∈ wsL_law) (h3 : Cond.selects C y y ∈ wsL_law) (h4 : Cond.initialized C ∈ wsL_law) (h5 : Cond.code y bytes maxL ret ∈ wsL_law)
    (hd : y.cls = C ∧ y.cls ≠ "java/lang/invoke/MethodHandle" ∧ y.cls ≠ "java/lang/invoke/VarHandle" ∧ (parseMethodDescriptor y.desc).map (fun d => d.parameters.length) = some n) (hn : As.length = n) (hR : rm.cells = mc1 ∧ rm.slots = ms1 ∧ rm.frames + 1 ≤ R.frames ∧ 8 + (maxL + 11) + rm.locals ≤ R.locals) (hcs : cells + mc1 ≤ R.cells ∧ slots + ms1 ≤ R.slots) (hrv : ∃ cell : Cell, H[b]? = some cell ∧ cell.vm.isStatics = false ∧ s.vm.findClass C = some cell.cls) (hst : st0 = As.reverse ++ .ref b :: rest) (hrest : (rest.map fun v => v.category).sum ≤ 8) (hdg : decode cc pc = .ok (.invokevirtual index, 3))
    (kx : ∀ (E : String) (ce : Cell) (q9 : Addr) (u : UX) (H1 : Heap) (locs1 : List Loc), px u → zEx E tc → BX u H1 → H.size ≤ H1.size → (∀ q, q < H.size → ¬ fr q → H1[q]? = H[q]?) → va_S A H0 H1 locs1 → H1[q9]? = some ce → ce.vm = .none → s.vm.findClass E = some ce.cls → vx_W p l e R s m args below meth c H1 locs1 (cells + mc1) (slots + ms1) Q (F0 m pc ls rest) q9)
    (kk : ∀ (r : UInt32) (u : U) (H1 : Heap) (locs1 : List Loc), post r u → Bq u H1 → H.size ≤ H1.size → (∀ q, q < H.size → ¬ fr q → H1[q]? = H[q]?) → va_S A H0 H1 locs1 → W p l e R s m args below meth c H1 locs1 (cells + mc1) (slots + ms1) Q (F0 m (pc + 3) ls (.float r :: rest))) : W p l e R s m args below meth c H locs cells slots Q (F0 m pc ls st0) := by
  subst hst
  have cw : CallW R s args own C index y bytes maxL ret (Cond.code y bytes maxL ret :: wsL_law) rm mc1 ms1 n := cwV n hts (zk_in _ (fun w hw => by
    simp only [wsV, List.cons_append, List.nil_append, List.mem_cons] at hw
    rcases hw with rfl | rfl | rfl | rfl | rfl | hw <;> assumption)) rfl hR.1 hR.2.1 hd hR.2.2
  refine vx_callf (vx_runV (C := C) (As := As) (rest := rest) ⟨hx, hb, hml, hown, hts⟩ hM cw ⟨yPc_blind, hrv, fun U hU hW => ⟨rfl, by rw [hU], by rw [hU]; exact hB, hK.warm hW, by rw [hU]; exact (hX.narrow hfr).warm hW, hNc.warm hW⟩⟩ rfl hn hsz rfl (lv_room hrest) hdg hcs) hS (fun q _ h => hfr q h) hfr (fun q _ h => hfr q h) (fun E ce q9 u t H1 locs1 ht hvm hw hB hz1 hk1 hS hce hcv hcl => ?_) (fun r u t H1 locs1 ht hvm hw hB hz1 hk1 hS => ?_)
  · rw [ht] at hB
    exact kx E ce q9 u H1 locs1 hw hB.1 hB.2 hz1 hk1 hS hce hcv hcl
  · rw [ht] at hB
    exact kk r u H1 locs1 hw hB hz1 hk1 hS
theorem ycxVv {y : MethodName} {bytes : ByteArray} {maxL nL n index : Nat} {ret : Option FieldType} {own : String} {rm : Room} {As st0 : List Value} {C : String} {b : Nat} {mc1 ms1 : Nat} {U : Type} {post : U → Prop} {Bp : Heap → Prop} {Bq : U → Heap → Prop} {fr : Nat → Prop} {UX : Type} {tc : Int} {px : UX → Prop} {BX : UX → Heap → Prop} (hx : p.tables.exec = Jvm.exec) (hb : c.code = cc) (hml : c.maxLocals = nL) (hown : s.vm.findClass own = some m.cls) (hts : ∀ w ∈ wsL_law, w.before args s = true) (hsz : ls.size = nL) (hK : zK D T s) (hX : zXs A s H) (hNc : zNc s) (hB : Bp H) (hfr : ∀ q, fr q → A q) (hS : va_S A H0 H locs)
    (hM : vx_Met l y (Cond.code y bytes maxL ret :: wsL_law) rm (yPc D T H.size fr Bp (.ref b :: As)) (va_Qv post (fun u t => Bq u t.heap) fr) (vx_X px (fun E u t => zEx E tc ∧ BX u t.heap) fr) mc1 ms1 fr)
    (h1 : Cond.methodLink own index y ∈ wsL_law) (h2 : Cond.instanceMethod y ∈ wsL_law) (h3 : Cond.selects C y y ∈ wsL_law) (h4 : Cond.initialized C ∈ wsL_law) (h5 : Cond.code y bytes maxL ret ∈ wsL_law)
    (hd : y.cls = C ∧ y.cls ≠ "java/lang/invoke/MethodHandle" ∧ y.cls ≠ "java/lang/invoke/VarHandle" ∧ (parseMethodDescriptor y.desc).map (fun d => d.parameters.length) = some n) (hn : As.length = n) (hR : rm.cells = mc1 ∧ rm.slots = ms1 ∧ rm.frames + 1 ≤ R.frames ∧ 8 + (maxL + 11) + rm.locals ≤ R.locals) (hcs : cells + mc1 ≤ R.cells ∧ slots + ms1 ≤ R.slots) (hrv : ∃ cell : Cell, H[b]? = some cell ∧ cell.vm.isStatics = false ∧ s.vm.findClass C = some cell.cls) (hst : st0 = As.reverse ++ .ref b :: rest) (hrest : (rest.map fun v => v.category).sum ≤ 8) (hdg : decode cc pc = .ok (.invokevirtual index, 3))
    (kx : ∀ (E : String) (ce : Cell) (q9 : Addr) (u : UX) (H1 : Heap) (locs1 : List Loc), px u → zEx E tc → BX u H1 → H.size ≤ H1.size → (∀ q, q < H.size → ¬ fr q → H1[q]? = H[q]?) → va_S A H0 H1 locs1 → H1[q9]? = some ce → ce.vm = .none → s.vm.findClass E = some ce.cls → vx_W p l e R s m args below meth c H1 locs1 (cells + mc1) (slots + ms1) Q (F0 m pc ls rest) q9)
    (kk : ∀ (u : U) (H1 : Heap) (locs1 : List Loc), post u → Bq u H1 → H.size ≤ H1.size → (∀ q, q < H.size → ¬ fr q → H1[q]? = H[q]?) → va_S A H0 H1 locs1 → W p l e R s m args below meth c H1 locs1 (cells + mc1) (slots + ms1) Q (F0 m (pc + 3) ls rest)) : W p l e R s m args below meth c H locs cells slots Q (F0 m pc ls st0) := by
  subst hst
  have cw : CallW R s args own C index y bytes maxL ret (Cond.code y bytes maxL ret :: wsL_law) rm mc1 ms1 n := cwV n hts (zk_in _ (fun w hw => by
    simp only [wsV, List.cons_append, List.nil_append, List.mem_cons] at hw
    rcases hw with rfl | rfl | rfl | rfl | rfl | hw <;> assumption)) rfl hR.1 hR.2.1 hd hR.2.2
  refine vx_callv (vx_runV (C := C) (As := As) (rest := rest) ⟨hx, hb, hml, hown, hts⟩ hM cw ⟨yPc_blind, hrv, fun U hU hW => ⟨rfl, by rw [hU], by rw [hU]; exact hB, hK.warm hW, by rw [hU]; exact (hX.narrow hfr).warm hW, hNc.warm hW⟩⟩ rfl hn hsz rfl (lv_room hrest) hdg hcs) hS (fun q _ h => hfr q h) hfr (fun q _ h => hfr q h) (fun E ce q9 u t H1 locs1 ht hvm hw hB hz1 hk1 hS hce hcv hcl => ?_) (fun u t H1 locs1 ht hvm hw hB hz1 hk1 hS => ?_)
  · rw [ht] at hB
    exact kx E ce q9 u H1 locs1 hw hB.1 hB.2 hz1 hk1 hS hce hcv hcl
  · rw [ht] at hB
    exact kk u H1 locs1 hw hB hz1 hk1 hS
theorem ycSi {y : MethodName} {bytes : ByteArray} {maxL nL n index : Nat} {ret : Option FieldType} {own : String} {rm : Room} {As st0 : List Value} {mc1 ms1 : Nat} {U : Type} {post : Int32 → U → Prop} {Bp : Heap → Prop} {Bq : U → Heap → Prop} {fr : Nat → Prop} (hx : p.tables.exec = Jvm.exec) (hb : c.code = cc) (hml : c.maxLocals = nL) (hown : s.vm.findClass own = some m.cls) (hts : ∀ w ∈ wsL_law, w.before args s = true) (hsz : ls.size = nL) (hK : zK D T s) (hX : zXs A s H) (hNc : zNc s) (hB : Bp H) (hfr : ∀ q, fr q → A q) (hS : va_S A H0 H locs)
    (hM : Met l y (Cond.code y bytes maxL ret :: wsL_law) rm (yPc D T H.size fr Bp As) (va_Qi post (fun u t => Bq u t.heap) fr) mc1 ms1 fr)
    (h1 : Cond.methodLink own index y ∈ wsL_law) (h2 : Cond.static y ∈ wsL_law) (h4 : Cond.initialized y.cls ∈ wsL_law) (h5 : Cond.code y bytes maxL ret ∈ wsL_law)
    (hd : y.cls ≠ "java/lang/invoke/MethodHandle" ∧ y.cls ≠ "java/lang/invoke/VarHandle" ∧ (parseMethodDescriptor y.desc).map (fun d => d.parameters.length) = some n) (hn : As.length = n) (hR : rm.cells = mc1 ∧ rm.slots = ms1 ∧ rm.frames + 1 ≤ R.frames ∧ 8 + (maxL + 11) + rm.locals ≤ R.locals) (hcs : cells + mc1 ≤ R.cells ∧ slots + ms1 ≤ R.slots) (hst : st0 = As.reverse ++ rest) (hrest : (rest.map fun v => v.category).sum ≤ 8) (hdg : decode cc pc = .ok (.invokestatic index, 3))
    (kk : ∀ (r : Int32) (u : U) (H1 : Heap) (locs1 : List Loc), post r u → Bq u H1 → H.size ≤ H1.size → (∀ q, q < H.size → ¬ fr q → H1[q]? = H[q]?) → va_S A H0 H1 locs1 → W p l e R s m args below meth c H1 locs1 (cells + mc1) (slots + ms1) Q (F0 m (pc + 3) ls (.int r :: rest))) : W p l e R s m args below meth c H locs cells slots Q (F0 m pc ls st0) := by
  subst hst
  have cw : CallB R s args own index y bytes maxL ret (Cond.code y bytes maxL ret :: wsL_law) rm mc1 ms1 n ∧ (Cond.static y).before args s = true := ⟨callB_of n hts (zk_in _ (fun w hw => by
    rcases List.mem_cons.mp hw with rfl | hw <;> assumption)) rfl hR.1 hR.2.1 (hts _ h4) (hts _ h1) hd hR.2.2, hts _ h2⟩
  refine va_calli (va_runS (As := As) (rest := rest) ⟨hx, hb, hml, hown, hts⟩ hM cw ⟨yPc_blind, fun U hU hW => ⟨rfl, by rw [hU], by rw [hU]; exact hB, hK.warm hW, by rw [hU]; exact (hX.narrow hfr).warm hW, hNc.warm hW⟩⟩ rfl hn hsz rfl (lv_room hrest) hdg hcs) hS (fun q _ h => hfr q h) hfr (fun r u t H1 locs1 ht hvm hw hB hz1 hk1 hS => ?_)
  rw [ht] at hB
  exact kk r u H1 locs1 hw hB hz1 hk1 hS
theorem ycSiW {y : MethodName} {bytes : ByteArray} {maxL nL n index : Nat} {ret : Option FieldType} {hh : List (Nat × Nat × Nat × Nat)} {own : String} {rm : Room} {As st0 : List Value} {mc1 ms1 : Nat} {U : Type} {post : Int32 → U → Prop} {Bp : Heap → Prop} {Bq : U → Heap → Prop} {fr : Nat → Prop} (hx : p.tables.exec = Jvm.exec) (hb : c.code = cc) (hml : c.maxLocals = nL) (hown : s.vm.findClass own = some m.cls) (hts : ∀ w ∈ wsL_law, w.before args s = true) (hsz : ls.size = nL) (hK : zK D T s) (hX : zXs A s H) (hNc : zNc s) (hB : Bp H) (hfr : ∀ q, fr q → A q) (hS : va_S A H0 H locs)
    (hM : Met l y (Cond.codeWith y bytes maxL ret hh :: wsL_law) rm (yPc D T H.size fr Bp As) (va_Qi post (fun u t => Bq u t.heap) fr) mc1 ms1 fr)
    (h1 : Cond.methodLink own index y ∈ wsL_law) (h2 : Cond.static y ∈ wsL_law) (h4 : Cond.initialized y.cls ∈ wsL_law) (h5 : Cond.codeWith y bytes maxL ret hh ∈ wsL_law)
    (hd : y.cls ≠ "java/lang/invoke/MethodHandle" ∧ y.cls ≠ "java/lang/invoke/VarHandle" ∧ (parseMethodDescriptor y.desc).map (fun d => d.parameters.length) = some n) (hn : As.length = n) (hR : rm.cells = mc1 ∧ rm.slots = ms1 ∧ rm.frames + 1 ≤ R.frames ∧ 8 + (maxL + 11) + rm.locals ≤ R.locals) (hcs : cells + mc1 ≤ R.cells ∧ slots + ms1 ≤ R.slots) (hst : st0 = As.reverse ++ rest) (hrest : (rest.map fun v => v.category).sum ≤ 8) (hdg : decode cc pc = .ok (.invokestatic index, 3))
    (kk : ∀ (r : Int32) (u : U) (H1 : Heap) (locs1 : List Loc), post r u → Bq u H1 → H.size ≤ H1.size → (∀ q, q < H.size → ¬ fr q → H1[q]? = H[q]?) → va_S A H0 H1 locs1 → W p l e R s m args below meth c H1 locs1 (cells + mc1) (slots + ms1) Q (F0 m (pc + 3) ls (.int r :: rest))) : W p l e R s m args below meth c H locs cells slots Q (F0 m pc ls st0) := by
  subst hst
  have cw : vx_CSW R s args own index y bytes maxL ret hh (Cond.codeWith y bytes maxL ret hh :: wsL_law) rm mc1 ms1 n := vx_cwSW n hts (zk_in _ (fun w hw => by
    simp only [va_wsS, List.cons_append, List.nil_append, List.mem_cons] at hw
    rcases hw with rfl | rfl | rfl | rfl | hw <;> assumption)) rfl hR.1 hR.2.1 hd hR.2.2
  refine va_calli (vx_runSW (As := As) (rest := rest) ⟨hx, hb, hml, hown, hts⟩ hM cw ⟨yPc_blind, fun U hU hW => ⟨rfl, by rw [hU], by rw [hU]; exact hB, hK.warm hW, by rw [hU]; exact (hX.narrow hfr).warm hW, hNc.warm hW⟩⟩ rfl hn hsz rfl (lv_room hrest) hdg hcs) hS (fun q _ h => hfr q h) hfr (fun r u t H1 locs1 ht hvm hw hB hz1 hk1 hS => ?_)
  rw [ht] at hB
  exact kk r u H1 locs1 hw hB hz1 hk1 hS
theorem ycSf {y : MethodName} {bytes : ByteArray} {maxL nL n index : Nat} {ret : Option FieldType} {own : String} {rm : Room} {As st0 : List Value} {mc1 ms1 : Nat} {U : Type} {post : UInt32 → U → Prop} {Bp : Heap → Prop} {Bq : U → Heap → Prop} {fr : Nat → Prop} (hx : p.tables.exec = Jvm.exec) (hb : c.code = cc) (hml : c.maxLocals = nL) (hown : s.vm.findClass own = some m.cls) (hts : ∀ w ∈ wsL_law, w.before args s = true) (hsz : ls.size = nL) (hK : zK D T s) (hX : zXs A s H) (hNc : zNc s) (hB : Bp H) (hfr : ∀ q, fr q → A q) (hS : va_S A H0 H locs)
    (hM : Met l y (Cond.code y bytes maxL ret :: wsL_law) rm (yPc D T H.size fr Bp As) (va_Qf post (fun u t => Bq u t.heap) fr) mc1 ms1 fr)
    (h1 : Cond.methodLink own index y ∈ wsL_law) (h2 : Cond.static y ∈ wsL_law) (h4 : Cond.initialized y.cls ∈ wsL_law) (h5 : Cond.code y bytes maxL ret ∈ wsL_law)
    (hd : y.cls ≠ "java/lang/invoke/MethodHandle" ∧ y.cls ≠ "java/lang/invoke/VarHandle" ∧ (parseMethodDescriptor y.desc).map (fun d => d.parameters.length) = some n) (hn : As.length = n) (hR : rm.cells = mc1 ∧ rm.slots = ms1 ∧ rm.frames + 1 ≤ R.frames ∧ 8 + (maxL + 11) + rm.locals ≤ R.locals) (hcs : cells + mc1 ≤ R.cells ∧ slots + ms1 ≤ R.slots) (hst : st0 = As.reverse ++ rest) (hrest : (rest.map fun v => v.category).sum ≤ 8) (hdg : decode cc pc = .ok (.invokestatic index, 3))
    (kk : ∀ (r : UInt32) (u : U) (H1 : Heap) (locs1 : List Loc), post r u → Bq u H1 → H.size ≤ H1.size → (∀ q, q < H.size → ¬ fr q → H1[q]? = H[q]?) → va_S A H0 H1 locs1 → W p l e R s m args below meth c H1 locs1 (cells + mc1) (slots + ms1) Q (F0 m (pc + 3) ls (.float r :: rest))) : W p l e R s m args below meth c H locs cells slots Q (F0 m pc ls st0) := by
  subst hst
  have cw : CallB R s args own index y bytes maxL ret (Cond.code y bytes maxL ret :: wsL_law) rm mc1 ms1 n ∧ (Cond.static y).before args s = true := ⟨callB_of n hts (zk_in _ (fun w hw => by
    rcases List.mem_cons.mp hw with rfl | hw <;> assumption)) rfl hR.1 hR.2.1 (hts _ h4) (hts _ h1) hd hR.2.2, hts _ h2⟩
  refine va_callf (va_runS (As := As) (rest := rest) ⟨hx, hb, hml, hown, hts⟩ hM cw ⟨yPc_blind, fun U hU hW => ⟨rfl, by rw [hU], by rw [hU]; exact hB, hK.warm hW, by rw [hU]; exact (hX.narrow hfr).warm hW, hNc.warm hW⟩⟩ rfl hn hsz rfl (lv_room hrest) hdg hcs) hS (fun q _ h => hfr q h) hfr (fun r u t H1 locs1 ht hvm hw hB hz1 hk1 hS => ?_)
  rw [ht] at hB
  exact kk r u H1 locs1 hw hB hz1 hk1 hS
theorem ycSv {y : MethodName} {bytes : ByteArray} {maxL nL n index : Nat} {ret : Option FieldType} {own : String} {rm : Room} {As st0 : List Value} {mc1 ms1 : Nat} {U : Type} {post : U → Prop} {Bp : Heap → Prop} {Bq : U → Heap → Prop} {fr : Nat → Prop} (hx : p.tables.exec = Jvm.exec) (hb : c.code = cc) (hml : c.maxLocals = nL) (hown : s.vm.findClass own = some m.cls) (hts : ∀ w ∈ wsL_law, w.before args s = true) (hsz : ls.size = nL) (hK : zK D T s) (hX : zXs A s H) (hNc : zNc s) (hB : Bp H) (hfr : ∀ q, fr q → A q) (hS : va_S A H0 H locs)
    (hM : Met l y (Cond.code y bytes maxL ret :: wsL_law) rm (yPc D T H.size fr Bp As) (va_Qv post (fun u t => Bq u t.heap) fr) mc1 ms1 fr)
    (h1 : Cond.methodLink own index y ∈ wsL_law) (h2 : Cond.static y ∈ wsL_law) (h4 : Cond.initialized y.cls ∈ wsL_law) (h5 : Cond.code y bytes maxL ret ∈ wsL_law)
    (hd : y.cls ≠ "java/lang/invoke/MethodHandle" ∧ y.cls ≠ "java/lang/invoke/VarHandle" ∧ (parseMethodDescriptor y.desc).map (fun d => d.parameters.length) = some n) (hn : As.length = n) (hR : rm.cells = mc1 ∧ rm.slots = ms1 ∧ rm.frames + 1 ≤ R.frames ∧ 8 + (maxL + 11) + rm.locals ≤ R.locals) (hcs : cells + mc1 ≤ R.cells ∧ slots + ms1 ≤ R.slots) (hst : st0 = As.reverse ++ rest) (hrest : (rest.map fun v => v.category).sum ≤ 8) (hdg : decode cc pc = .ok (.invokestatic index, 3))
    (kk : ∀ (u : U) (H1 : Heap) (locs1 : List Loc), post u → Bq u H1 → H.size ≤ H1.size → (∀ q, q < H.size → ¬ fr q → H1[q]? = H[q]?) → va_S A H0 H1 locs1 → W p l e R s m args below meth c H1 locs1 (cells + mc1) (slots + ms1) Q (F0 m (pc + 3) ls rest)) : W p l e R s m args below meth c H locs cells slots Q (F0 m pc ls st0) := by
  subst hst
  have cw : CallB R s args own index y bytes maxL ret (Cond.code y bytes maxL ret :: wsL_law) rm mc1 ms1 n ∧ (Cond.static y).before args s = true := ⟨callB_of n hts (zk_in _ (fun w hw => by
    rcases List.mem_cons.mp hw with rfl | hw <;> assumption)) rfl hR.1 hR.2.1 (hts _ h4) (hts _ h1) hd hR.2.2, hts _ h2⟩
  refine va_callv (va_runS (As := As) (rest := rest) ⟨hx, hb, hml, hown, hts⟩ hM cw ⟨yPc_blind, fun U hU hW => ⟨rfl, by rw [hU], by rw [hU]; exact hB, hK.warm hW, by rw [hU]; exact (hX.narrow hfr).warm hW, hNc.warm hW⟩⟩ rfl hn hsz rfl (lv_room hrest) hdg hcs) hS (fun q _ h => hfr q h) hfr (fun u t H1 locs1 ht hvm hw hB hz1 hk1 hS => ?_)
  rw [ht] at hB
  exact kk u H1 locs1 hw hB hz1 hk1 hS
theorem ycSl {y : MethodName} {bytes : ByteArray} {maxL nL n index : Nat} {ret : Option FieldType} {own : String} {rm : Room} {As st0 : List Value} {mc1 ms1 : Nat} {U : Type} {post : Int64 → U → Prop} {Bp : Heap → Prop} {Bq : U → Heap → Prop} {fr : Nat → Prop} (hx : p.tables.exec = Jvm.exec) (hb : c.code = cc) (hml : c.maxLocals = nL) (hown : s.vm.findClass own = some m.cls) (hts : ∀ w ∈ wsL_law, w.before args s = true) (hsz : ls.size = nL) (hK : zK D T s) (hX : zXs A s H) (hNc : zNc s) (hB : Bp H) (hfr : ∀ q, fr q → A q) (hS : va_S A H0 H locs)
    (hM : Met l y (Cond.code y bytes maxL ret :: wsL_law) rm (yPc D T H.size fr Bp As) (va_Ql post (fun u t => Bq u t.heap) fr) mc1 ms1 fr)
    (h1 : Cond.methodLink own index y ∈ wsL_law) (h2 : Cond.static y ∈ wsL_law) (h4 : Cond.initialized y.cls ∈ wsL_law) (h5 : Cond.code y bytes maxL ret ∈ wsL_law)
    (hd : y.cls ≠ "java/lang/invoke/MethodHandle" ∧ y.cls ≠ "java/lang/invoke/VarHandle" ∧ (parseMethodDescriptor y.desc).map (fun d => d.parameters.length) = some n) (hn : As.length = n) (hR : rm.cells = mc1 ∧ rm.slots = ms1 ∧ rm.frames + 1 ≤ R.frames ∧ 8 + (maxL + 11) + rm.locals ≤ R.locals) (hcs : cells + mc1 ≤ R.cells ∧ slots + ms1 ≤ R.slots) (hst : st0 = As.reverse ++ rest) (hrest : (rest.map fun v => v.category).sum ≤ 8) (hdg : decode cc pc = .ok (.invokestatic index, 3))
    (kk : ∀ (r : Int64) (u : U) (H1 : Heap) (locs1 : List Loc), post r u → Bq u H1 → H.size ≤ H1.size → (∀ q, q < H.size → ¬ fr q → H1[q]? = H[q]?) → va_S A H0 H1 locs1 → W p l e R s m args below meth c H1 locs1 (cells + mc1) (slots + ms1) Q (F0 m (pc + 3) ls (.long r :: rest))) : W p l e R s m args below meth c H locs cells slots Q (F0 m pc ls st0) := by
  subst hst
  have cw : CallB R s args own index y bytes maxL ret (Cond.code y bytes maxL ret :: wsL_law) rm mc1 ms1 n ∧ (Cond.static y).before args s = true := ⟨callB_of n hts (zk_in _ (fun w hw => by
    rcases List.mem_cons.mp hw with rfl | hw <;> assumption)) rfl hR.1 hR.2.1 (hts _ h4) (hts _ h1) hd hR.2.2, hts _ h2⟩
  refine va_calll (va_runS (As := As) (rest := rest) ⟨hx, hb, hml, hown, hts⟩ hM cw ⟨yPc_blind, fun U hU hW => ⟨rfl, by rw [hU], by rw [hU]; exact hB, hK.warm hW, by rw [hU]; exact (hX.narrow hfr).warm hW, hNc.warm hW⟩⟩ rfl hn hsz rfl (lv_room hrest) hdg hcs) hS (fun q _ h => hfr q h) hfr (fun r u t H1 locs1 ht hvm hw hB hz1 hk1 hS => ?_)
  rw [ht] at hB
  exact kk r u H1 locs1 hw hB hz1 hk1 hS
theorem ycxSi {y : MethodName} {bytes : ByteArray} {maxL nL n index : Nat} {ret : Option FieldType} {own : String} {rm : Room} {As st0 : List Value} {mc1 ms1 : Nat} {U : Type} {post : Int32 → U → Prop} {Bp : Heap → Prop} {Bq : U → Heap → Prop} {fr : Nat → Prop} {UX : Type} {tc : Int} {px : UX → Prop} {BX : UX → Heap → Prop} (hx : p.tables.exec = Jvm.exec) (hb : c.code = cc) (hml : c.maxLocals = nL) (hown : s.vm.findClass own = some m.cls) (hts : ∀ w ∈ wsL_law, w.before args s = true) (hsz : ls.size = nL) (hK : zK D T s) (hX : zXs A s H) (hNc : zNc s) (hB : Bp H) (hfr : ∀ q, fr q → A q) (hS : va_S A H0 H locs)
    (hM : vx_Met l y (Cond.code y bytes maxL ret :: wsL_law) rm (yPc D T H.size fr Bp As) (va_Qi post (fun u t => Bq u t.heap) fr) (vx_X px (fun E u t => zEx E tc ∧ BX u t.heap) fr) mc1 ms1 fr)
    (h1 : Cond.methodLink own index y ∈ wsL_law) (h2 : Cond.static y ∈ wsL_law) (h4 : Cond.initialized y.cls ∈ wsL_law) (h5 : Cond.code y bytes maxL ret ∈ wsL_law)
    (hd : y.cls ≠ "java/lang/invoke/MethodHandle" ∧ y.cls ≠ "java/lang/invoke/VarHandle" ∧ (parseMethodDescriptor y.desc).map (fun d => d.parameters.length) = some n) (hn : As.length = n) (hR : rm.cells = mc1 ∧ rm.slots = ms1 ∧ rm.frames + 1 ≤ R.frames ∧ 8 + (maxL + 11) + rm.locals ≤ R.locals) (hcs : cells + mc1 ≤ R.cells ∧ slots + ms1 ≤ R.slots) (hst : st0 = As.reverse ++ rest) (hrest : (rest.map fun v => v.category).sum ≤ 8) (hdg : decode cc pc = .ok (.invokestatic index, 3))
    (kx : ∀ (E : String) (ce : Cell) (q9 : Addr) (u : UX) (H1 : Heap) (locs1 : List Loc), px u → zEx E tc → BX u H1 → H.size ≤ H1.size → (∀ q, q < H.size → ¬ fr q → H1[q]? = H[q]?) → va_S A H0 H1 locs1 → H1[q9]? = some ce → ce.vm = .none → s.vm.findClass E = some ce.cls → vx_W p l e R s m args below meth c H1 locs1 (cells + mc1) (slots + ms1) Q (F0 m pc ls rest) q9)
    (kk : ∀ (r : Int32) (u : U) (H1 : Heap) (locs1 : List Loc), post r u → Bq u H1 → H.size ≤ H1.size → (∀ q, q < H.size → ¬ fr q → H1[q]? = H[q]?) → va_S A H0 H1 locs1 → W p l e R s m args below meth c H1 locs1 (cells + mc1) (slots + ms1) Q (F0 m (pc + 3) ls (.int r :: rest))) : W p l e R s m args below meth c H locs cells slots Q (F0 m pc ls st0) := by
  subst hst
  have cw : CallB R s args own index y bytes maxL ret (Cond.code y bytes maxL ret :: wsL_law) rm mc1 ms1 n ∧ (Cond.static y).before args s = true := ⟨callB_of n hts (zk_in _ (fun w hw => by
    rcases List.mem_cons.mp hw with rfl | hw <;> assumption)) rfl hR.1 hR.2.1 (hts _ h4) (hts _ h1) hd hR.2.2, hts _ h2⟩
  refine vx_calli (vx_runS (As := As) (rest := rest) ⟨hx, hb, hml, hown, hts⟩ hM cw ⟨yPc_blind, fun U hU hW => ⟨rfl, by rw [hU], by rw [hU]; exact hB, hK.warm hW, by rw [hU]; exact (hX.narrow hfr).warm hW, hNc.warm hW⟩⟩ rfl hn hsz rfl (lv_room hrest) hdg hcs) hS (fun q _ h => hfr q h) hfr (fun q _ h => hfr q h) (fun E ce q9 u t H1 locs1 ht hvm hw hB hz1 hk1 hS hce hcv hcl => ?_) (fun r u t H1 locs1 ht hvm hw hB hz1 hk1 hS => ?_)
  · rw [ht] at hB
    exact kx E ce q9 u H1 locs1 hw hB.1 hB.2 hz1 hk1 hS hce hcv hcl
  · rw [ht] at hB
    exact kk r u H1 locs1 hw hB hz1 hk1 hS
theorem ycxSf {y : MethodName} {bytes : ByteArray} {maxL nL n index : Nat} {ret : Option FieldType} {own : String} {rm : Room} {As st0 : List Value} {mc1 ms1 : Nat} {U : Type} {post : UInt32 → U → Prop} {Bp : Heap → Prop} {Bq : U → Heap → Prop} {fr : Nat → Prop} {UX : Type} {tc : Int} {px : UX → Prop} {BX : UX → Heap → Prop} (hx : p.tables.exec = Jvm.exec) (hb : c.code = cc) (hml : c.maxLocals = nL) (hown : s.vm.findClass own = some m.cls) (hts : ∀ w ∈ wsL_law, w.before args s = true) (hsz : ls.size = nL) (hK : zK D T s) (hX : zXs A s H) (hNc : zNc s) (hB : Bp H) (hfr : ∀ q, fr q → A q) (hS : va_S A H0 H locs)
    (hM : vx_Met l y (Cond.code y bytes maxL ret :: wsL_law) rm (yPc D T H.size fr Bp As) (va_Qf post (fun u t => Bq u t.heap) fr) (vx_X px (fun E u t => zEx E tc ∧ BX u t.heap) fr) mc1 ms1 fr)
    (h1 : Cond.methodLink own index y ∈ wsL_law) (h2 : Cond.static y ∈ wsL_law) (h4 : Cond.initialized y.cls ∈ wsL_law) (h5 : Cond.code y bytes maxL ret ∈ wsL_law)
    (hd : y.cls ≠ "java/lang/invoke/MethodHandle" ∧ y.cls ≠ "java/lang/invoke/VarHandle" ∧ (parseMethodDescriptor y.desc).map (fun d => d.parameters.length) = some n) (hn : As.length = n) (hR : rm.cells = mc1 ∧ rm.slots = ms1 ∧ rm.frames + 1 ≤ R.frames ∧ 8 + (maxL + 11) + rm.locals ≤ R.locals) (hcs : cells + mc1 ≤ R.cells ∧ slots + ms1 ≤ R.slots) (hst : st0 = As.reverse ++ rest) (hrest : (rest.map fun v => v.category).sum ≤ 8) (hdg : decode cc pc = .ok (.invokestatic index, 3))
    (kx : ∀ (E : String) (ce : Cell) (q9 : Addr) (u : UX) (H1 : Heap) (locs1 : List Loc), px u → zEx E tc → BX u H1 → H.size ≤ H1.size → (∀ q, q < H.size → ¬ fr q → H1[q]? = H[q]?) → va_S A H0 H1 locs1 → H1[q9]? = some ce → ce.vm = .none → s.vm.findClass E = some ce.cls → vx_W p l e R s m args below meth c H1 locs1 (cells + mc1) (slots + ms1) Q (F0 m pc ls rest) q9)
    (kk : ∀ (r : UInt32) (u : U) (H1 : Heap) (locs1 : List Loc), post r u → Bq u H1 → H.size ≤ H1.size → (∀ q, q < H.size → ¬ fr q → H1[q]? = H[q]?) → va_S A H0 H1 locs1 → W p l e R s m args below meth c H1 locs1 (cells + mc1) (slots + ms1) Q (F0 m (pc + 3) ls (.float r :: rest))) : W p l e R s m args below meth c H locs cells slots Q (F0 m pc ls st0) := by
  subst hst
  have cw : CallB R s args own index y bytes maxL ret (Cond.code y bytes maxL ret :: wsL_law) rm mc1 ms1 n ∧ (Cond.static y).before args s = true := ⟨callB_of n hts (zk_in _ (fun w hw => by
    rcases List.mem_cons.mp hw with rfl | hw <;> assumption)) rfl hR.1 hR.2.1 (hts _ h4) (hts _ h1) hd hR.2.2, hts _ h2⟩
  refine vx_callf (vx_runS (As := As) (rest := rest) ⟨hx, hb, hml, hown, hts⟩ hM cw ⟨yPc_blind, fun U hU hW => ⟨rfl, by rw [hU], by rw [hU]; exact hB, hK.warm hW, by rw [hU]; exact (hX.narrow hfr).warm hW, hNc.warm hW⟩⟩ rfl hn hsz rfl (lv_room hrest) hdg hcs) hS (fun q _ h => hfr q h) hfr (fun q _ h => hfr q h) (fun E ce q9 u t H1 locs1 ht hvm hw hB hz1 hk1 hS hce hcv hcl => ?_) (fun r u t H1 locs1 ht hvm hw hB hz1 hk1 hS => ?_)
  · rw [ht] at hB
    exact kx E ce q9 u H1 locs1 hw hB.1 hB.2 hz1 hk1 hS hce hcv hcl
  · rw [ht] at hB
    exact kk r u H1 locs1 hw hB hz1 hk1 hS
theorem ycxSv {y : MethodName} {bytes : ByteArray} {maxL nL n index : Nat} {ret : Option FieldType} {own : String} {rm : Room} {As st0 : List Value} {mc1 ms1 : Nat} {U : Type} {post : U → Prop} {Bp : Heap → Prop} {Bq : U → Heap → Prop} {fr : Nat → Prop} {UX : Type} {tc : Int} {px : UX → Prop} {BX : UX → Heap → Prop} (hx : p.tables.exec = Jvm.exec) (hb : c.code = cc) (hml : c.maxLocals = nL) (hown : s.vm.findClass own = some m.cls) (hts : ∀ w ∈ wsL_law, w.before args s = true) (hsz : ls.size = nL) (hK : zK D T s) (hX : zXs A s H) (hNc : zNc s) (hB : Bp H) (hfr : ∀ q, fr q → A q) (hS : va_S A H0 H locs)
    (hM : vx_Met l y (Cond.code y bytes maxL ret :: wsL_law) rm (yPc D T H.size fr Bp As) (va_Qv post (fun u t => Bq u t.heap) fr) (vx_X px (fun E u t => zEx E tc ∧ BX u t.heap) fr) mc1 ms1 fr)
    (h1 : Cond.methodLink own index y ∈ wsL_law) (h2 : Cond.static y ∈ wsL_law) (h4 : Cond.initialized y.cls ∈ wsL_law) (h5 : Cond.code y bytes maxL ret ∈ wsL_law)
    (hd : y.cls ≠ "java/lang/invoke/MethodHandle" ∧ y.cls ≠ "java/lang/invoke/VarHandle" ∧ (parseMethodDescriptor y.desc).map (fun d => d.parameters.length) = some n) (hn : As.length = n) (hR : rm.cells = mc1 ∧ rm.slots = ms1 ∧ rm.frames + 1 ≤ R.frames ∧ 8 + (maxL + 11) + rm.locals ≤ R.locals) (hcs : cells + mc1 ≤ R.cells ∧ slots + ms1 ≤ R.slots) (hst : st0 = As.reverse ++ rest) (hrest : (rest.map fun v => v.category).sum ≤ 8) (hdg : decode cc pc = .ok (.invokestatic index, 3))
    (kx : ∀ (E : String) (ce : Cell) (q9 : Addr) (u : UX) (H1 : Heap) (locs1 : List Loc), px u → zEx E tc → BX u H1 → H.size ≤ H1.size → (∀ q, q < H.size → ¬ fr q → H1[q]? = H[q]?) → va_S A H0 H1 locs1 → H1[q9]? = some ce → ce.vm = .none → s.vm.findClass E = some ce.cls → vx_W p l e R s m args below meth c H1 locs1 (cells + mc1) (slots + ms1) Q (F0 m pc ls rest) q9)
    (kk : ∀ (u : U) (H1 : Heap) (locs1 : List Loc), post u → Bq u H1 → H.size ≤ H1.size → (∀ q, q < H.size → ¬ fr q → H1[q]? = H[q]?) → va_S A H0 H1 locs1 → W p l e R s m args below meth c H1 locs1 (cells + mc1) (slots + ms1) Q (F0 m (pc + 3) ls rest)) : W p l e R s m args below meth c H locs cells slots Q (F0 m pc ls st0) := by
  subst hst
  have cw : CallB R s args own index y bytes maxL ret (Cond.code y bytes maxL ret :: wsL_law) rm mc1 ms1 n ∧ (Cond.static y).before args s = true := ⟨callB_of n hts (zk_in _ (fun w hw => by
    rcases List.mem_cons.mp hw with rfl | hw <;> assumption)) rfl hR.1 hR.2.1 (hts _ h4) (hts _ h1) hd hR.2.2, hts _ h2⟩
  refine vx_callv (vx_runS (As := As) (rest := rest) ⟨hx, hb, hml, hown, hts⟩ hM cw ⟨yPc_blind, fun U hU hW => ⟨rfl, by rw [hU], by rw [hU]; exact hB, hK.warm hW, by rw [hU]; exact (hX.narrow hfr).warm hW, hNc.warm hW⟩⟩ rfl hn hsz rfl (lv_room hrest) hdg hcs) hS (fun q _ h => hfr q h) hfr (fun q _ h => hfr q h) (fun E ce q9 u t H1 locs1 ht hvm hw hB hz1 hk1 hS hce hcv hcl => ?_) (fun u t H1 locs1 ht hvm hw hB hz1 hk1 hS => ?_)
  · rw [ht] at hB
    exact kx E ce q9 u H1 locs1 hw hB.1 hB.2 hz1 hk1 hS hce hcv hcl
  · rw [ht] at hB
    exact kk u H1 locs1 hw hB hz1 hk1 hS
end YR
