/-! ===== the law's world: two objects and a row of numbers ===== -/
def ysr (x k : Int) : Int := ((zI x) >>> ((zI k) &&& 31)).toInt
def yus (x k : Int) : Int := (((zI x).toUInt32 >>> ((zI k).toUInt32 &&& Int32.toUInt32 31)).toInt32).toInt
def ylc (x y : Int64) : Int := (lg_cmp x y).toInt
def yfc (x y : UInt32) : Int := (Op.cmpValue (FP.fcmp x y) .l).toInt
abbrev yA (F1 F2 : Nat → Prop) (qd sz : Nat) : Nat → Prop := fun x => F1 x ∨ F2 x ∨ x = qd ∨ sz ≤ x
def yW (D : va_G) (cI cZ cF : ClassId) (q1 : Nat) (F1 : Nat → Prop) (S1 : yS) (q2 : Nat) (F2 : Nat → Prop) (S2 : yS) (qd : Nat) (dv : Int → Int) (H : Heap) : Prop := yOb D cI cZ cF q1 F1 S1 H ∧ yOb D cI cZ cF q2 F2 S2 H ∧ va_P D vwCl [(qd, (.inl (cI, 26, .inl (zA dv)) : va_E))] H ∧ (∀ x, F1 x → ¬ F2 x) ∧ ¬ F1 qd ∧ ¬ F2 qd
theorem yW.swap {D : va_G} {cI cZ cF : ClassId} {q1 : Nat} {F1 : Nat → Prop} {S1 : yS} {q2 : Nat} {F2 : Nat → Prop} {S2 : yS} {qd : Nat} {dv : Int → Int} {H : Heap} (h : yW D cI cZ cF q1 F1 S1 q2 F2 S2 qd dv H) : yW D cI cZ cF q2 F2 S2 q1 F1 S1 qd dv H := ⟨h.2.1, h.1, h.2.2.1, fun x h2 h1 => h.2.2.2.1 x h1 h2, h.2.2.2.2.2, h.2.2.2.2.1⟩
def yG (D : va_G) (cI cZ cF : ClassId) (q1 : Nat) (F1 : Nat → Prop) (S1 : yS) (q2 : Nat) (F2 : Nat → Prop) (S2 : yS) (qd : Nat) (dv : Int → Int) (E1 E2 : Nat → Prop) (H0 H : Heap) (locs : List Loc) : Prop := yW D cI cZ cF q1 F1 S1 q2 F2 S2 qd dv H ∧ yPo E1 H0.size F1 ∧ yPo E2 H0.size F2 ∧ va_S (yA E1 E2 qd H0.size) H0 H locs
def yQLi (D : va_G) (cI cZ cF : ClassId) (q1 : Nat) (E1 : Nat → Prop) (q2 : Nat) (E2 : Nat → Prop) (qd sz : Nat) (P : Int32 → Prop) (S1 S2 : yS) (dv : Int → Int) : Array Value → State → Outcome → State → Prop := va_Qi (fun (r : Int32) (u : (Nat → Prop) × (Nat → Prop)) => P r ∧ yPo E1 sz u.1 ∧ yPo E2 sz u.2) (fun u t => yW D cI cZ cF q1 u.1 S1 q2 u.2 S2 qd dv t.heap) (yA E1 E2 qd sz)
def yQLl (D : va_G) (cI cZ cF : ClassId) (q1 : Nat) (E1 : Nat → Prop) (q2 : Nat) (E2 : Nat → Prop) (qd sz : Nat) (P : Int64 → Prop) (S1 S2 : yS) (dv : Int → Int) : Array Value → State → Outcome → State → Prop := va_Ql (fun (r : Int64) (u : (Nat → Prop) × (Nat → Prop)) => P r ∧ yPo E1 sz u.1 ∧ yPo E2 sz u.2) (fun u t => yW D cI cZ cF q1 u.1 S1 q2 u.2 S2 qd dv t.heap) (yA E1 E2 qd sz)
def yXL (D : va_G) (cI cZ cF : ClassId) (q1 : Nat) (E1 : Nat → Prop) (q2 : Nat) (E2 : Nat → Prop) (qd sz : Nat) (tc : Int) (S1 S2 : yS) (dv : Int → Int) : String → State → State → Prop := vx_X (fun (u : (Nat → Prop) × (Nat → Prop)) => yPo E1 sz u.1 ∧ yPo E2 sz u.2) (fun E u t => zEx E tc ∧ yW D cI cZ cF q1 u.1 S1 q2 u.2 S2 qd dv t.heap) (yA E1 E2 qd sz)
section YG
variable {D : va_G} {cI cZ cF cL cD : ClassId} {q1 q2 qd : Nat} {F1 F2 E1 E2 F9 : Nat → Prop} {S1 S2 S9 : yS} {dv dv9 : Int → Int} {H0 H H1 : Heap} {locs locs1 : List Loc}
theorem yG_in (hW : yW D cI cZ cF q1 E1 S1 q2 E2 S2 qd dv H0) (hS : va_S (yA E1 E2 qd H0.size) H0 H0 locs) : yG D cI cZ cF q1 E1 S1 q2 E2 S2 qd dv E1 E2 H0 H0 locs := ⟨hW, yPo_rf, yPo_rf, hS⟩
theorem yG_f1 (hG : yG D cI cZ cF q1 F1 S1 q2 F2 S2 qd dv E1 E2 H0 H locs) : ∀ q, yFr F1 H.size q → yA E1 E2 qd H0.size q := fun q h => by
  rcases h with h | h
  · rcases hG.2.1.2 q h with z | z
    · exact Or.inl z
    · exact Or.inr (Or.inr (Or.inr z))
  · exact Or.inr (Or.inr (Or.inr (Nat.le_trans hG.2.2.2.1 h)))
theorem yG_f2 (hG : yG D cI cZ cF q1 F1 S1 q2 F2 S2 qd dv E1 E2 H0 H locs) : ∀ q, yFr F2 H.size q → yA E1 E2 qd H0.size q := fun q h => by
  rcases h with h | h
  · rcases hG.2.2.1.2 q h with z | z
    · exact Or.inr (Or.inl z)
    · exact Or.inr (Or.inr (Or.inr z))
  · exact Or.inr (Or.inr (Or.inr (Nat.le_trans hG.2.2.2.1 h)))
theorem yG_f0 (hG : yG D cI cZ cF q1 F1 S1 q2 F2 S2 qd dv E1 E2 H0 H locs) : ∀ q, H.size ≤ q → yA E1 E2 qd H0.size q := fun q h => Or.inr (Or.inr (Or.inr (Nat.le_trans hG.2.2.2.1 h)))
theorem yG_fw (hG : yG D cI cZ cF q1 F1 S1 q2 F2 S2 qd dv E1 E2 H0 H locs) : ∀ q, yA F1 F2 qd H.size q → yA E1 E2 qd H0.size q := fun q h => by
  rcases h with h | h | h | h
  · exact yG_f1 hG q (Or.inl h)
  · exact yG_f2 hG q (Or.inl h)
  · exact Or.inr (Or.inr (Or.inl h))
  · exact yG_f0 hG q h
theorem yG_fs (hG : yG D cI cZ cF q1 F1 S1 q2 F2 S2 qd dv E1 E2 H0 H locs) : ∀ q, yA F2 F1 qd H.size q → yA E1 E2 qd H0.size q := fun q h => by
  rcases h with h | h | h | h
  · exact yG_f2 hG q (Or.inl h)
  · exact yG_f1 hG q (Or.inl h)
  · exact Or.inr (Or.inr (Or.inl h))
  · exact yG_f0 hG q h
theorem yPo_tr {F F' F'' : Nat → Prop} {a b : Nat} (hab : a ≤ b) (h : yPo F a F') (h2 : yPo F' b F'') : yPo F a F'' := ⟨fun x z => h2.1 x (h.1 x z), fun x z => by
  rcases h2.2 x z with y | y
  · exact h.2 x y
  · exact Or.inr (Nat.le_trans hab y)⟩
theorem yD_lt {D : va_G} {cI : ClassId} {qd : Nat} {dv : Int → Int} {H : Heap} (h : va_P D vwCl [(qd, (.inl (cI, 26, .inl (zA dv)) : va_E))] H) : qd < H.size := (h 0 _ rfl).lt
theorem yD_kept {D : va_G} {cI : ClassId} {qd : Nat} {dv : Int → Int} {H H1 : Heap} (h : va_P D vwCl [(qd, (.inl (cI, 26, .inl (zA dv)) : va_E))] H) (e : H1[qd]? = H[qd]?) : va_P D vwCl [(qd, (.inl (cI, 26, .inl (zA dv)) : va_E))] H1 := h.kept (fun k q hk => by
  match k, hk with
  | 0, hk => cases hk; exact e
  | k + 1, hk => cases hk)
theorem yG_1 (hG : yG D cI cZ cF q1 F1 S1 q2 F2 S2 qd dv E1 E2 H0 H locs) (hO : yOb D cI cZ cF q1 F9 S9 H1) (hPo : yPo F1 H.size F9) (hz : H.size ≤ H1.size) (hk : ∀ q, q < H.size → ¬ yFr F1 H.size q → H1[q]? = H[q]?) (hS : va_S (yA E1 E2 qd H0.size) H0 H1 locs1) : yG D cI cZ cF q1 F9 S9 q2 F2 S2 qd dv E1 E2 H0 H1 locs1 := by
  obtain ⟨⟨h1, h2, h3, h4, h5, h6⟩, p1, p2, hS0⟩ := hG
  have l2 : ∀ x, F2 x → x < H.size := fun x hx => yOb_lt h2 hx
  have l3 := yD_lt h3
  refine ⟨⟨hO, yOb_kept h2 (fun x hx => hk x (l2 x hx) (fun z => ?_)), yD_kept h3 (hk qd l3 (fun z => ?_)), fun x hx z => ?_, fun z => ?_, h6⟩, yPo_tr hS0.1 p1 hPo, p2, hS⟩
  · rcases z with z | z
    · exact h4 x z hx
    · have := l2 x hx; omega
  · rcases z with z | z
    · exact h5 z
    · omega
  · rcases hPo.2 x hx with y | y
    · exact h4 x y z
    · have := l2 x z; omega
  · rcases hPo.2 qd z with y | y
    · exact h5 y
    · omega
theorem yG_2 (hG : yG D cI cZ cF q1 F1 S1 q2 F2 S2 qd dv E1 E2 H0 H locs) (hO : yOb D cI cZ cF q2 F9 S9 H1) (hPo : yPo F2 H.size F9) (hz : H.size ≤ H1.size) (hk : ∀ q, q < H.size → ¬ yFr F2 H.size q → H1[q]? = H[q]?) (hS : va_S (yA E1 E2 qd H0.size) H0 H1 locs1) : yG D cI cZ cF q1 F1 S1 q2 F9 S9 qd dv E1 E2 H0 H1 locs1 := by
  obtain ⟨⟨h1, h2, h3, h4, h5, h6⟩, p1, p2, hS0⟩ := hG
  have l1 : ∀ x, F1 x → x < H.size := fun x hx => yOb_lt h1 hx
  have l3 := yD_lt h3
  refine ⟨⟨yOb_kept h1 (fun x hx => hk x (l1 x hx) (fun z => ?_)), hO, yD_kept h3 (hk qd l3 (fun z => ?_)), fun x hx z => ?_, h5, fun z => ?_⟩, p1, yPo_tr hS0.1 p2 hPo, hS⟩
  · rcases z with z | z
    · exact h4 x hx z
    · have := l1 x hx; omega
  · rcases z with z | z
    · exact h6 z
    · omega
  · rcases hPo.2 x z with y | y
    · exact h4 x hx y
    · have := l1 x hx; omega
  · rcases hPo.2 qd z with y | y
    · exact h6 y
    · omega
theorem yG_0 (hG : yG D cI cZ cF q1 F1 S1 q2 F2 S2 qd dv E1 E2 H0 H locs) (hz : H.size ≤ H1.size) (hk : ∀ q, q < H.size → ¬ H.size ≤ q → H1[q]? = H[q]?) (hS : va_S (yA E1 E2 qd H0.size) H0 H1 locs1) : yG D cI cZ cF q1 F1 S1 q2 F2 S2 qd dv E1 E2 H0 H1 locs1 := by
  obtain ⟨⟨h1, h2, h3, h4, h5, h6⟩, p1, p2, hS0⟩ := hG
  have keep : ∀ x, x < H.size → H1[x]? = H[x]? := fun x hx => hk x hx (by omega)
  exact ⟨⟨yOb_kept h1 (fun x hx => keep x (yOb_lt h1 hx)), yOb_kept h2 (fun x hx => keep x (yOb_lt h2 hx)), yD_kept h3 (keep qd (yD_lt h3)), h4, h5, h6⟩, p1, p2, hS⟩
theorem yG_w {u : (Nat → Prop) × (Nat → Prop)} {S3 S4 : yS} (hG : yG D cI cZ cF q1 F1 S1 q2 F2 S2 qd dv E1 E2 H0 H locs) (hW : yW D cI cZ cF q1 u.1 S3 q2 u.2 S4 qd dv9 H1) (hp : yPo F1 H.size u.1 ∧ yPo F2 H.size u.2) (hz : H.size ≤ H1.size) (hS : va_S (yA E1 E2 qd H0.size) H0 H1 locs1) : yG D cI cZ cF q1 u.1 S3 q2 u.2 S4 qd dv9 E1 E2 H0 H1 locs1 := ⟨hW, yPo_tr hG.2.2.2.1 hG.2.1 hp.1, yPo_tr hG.2.2.2.1 hG.2.2.1 hp.2, hS⟩
theorem yG_s {u : (Nat → Prop) × (Nat → Prop)} {S3 S4 : yS} (hG : yG D cI cZ cF q1 F1 S1 q2 F2 S2 qd dv E1 E2 H0 H locs) (hW : yW D cI cZ cF q2 u.1 S3 q1 u.2 S4 qd dv9 H1) (hp : yPo F2 H.size u.1 ∧ yPo F1 H.size u.2) (hz : H.size ≤ H1.size) (hS : va_S (yA E1 E2 qd H0.size) H0 H1 locs1) : yG D cI cZ cF q1 u.2 S4 q2 u.1 S3 qd dv9 E1 E2 H0 H1 locs1 := ⟨hW.swap, yPo_tr hG.2.2.2.1 hG.2.1 hp.2, yPo_tr hG.2.2.2.1 hG.2.2.1 hp.1, hS⟩
end YG
section YLR
variable {p : Program} {l : Launch} {e : Env} {R : Room} {s : State} {m : MethodId} {args : Array Value} {below : List Frame} {meth : Method} {c : Code} {H : Heap} {locs : List Loc} {cells slots : Nat} {Q : State → Prop}
variable {cc : ByteArray} {pc : Nat} {ls : Array Slot} {rest : List Value} {D : va_G} {cI cZ cF cL cD : ClassId} {q1 q2 qd : Nat} {F1 F2 E1 E2 : Nat → Prop} {S1 S2 : yS} {dv : Int → Int} {H0 : Heap}
theorem lz_nml {x v : Int64} {ls : Array Slot} (h : v = x) (k : W p l e R s m args below meth c H locs cells slots Q (F0 m pc ls (.long v :: rest))) : W p l e R s m args below meth c H locs cells slots Q (F0 m pc ls (.long x :: rest)) := h ▸ k
theorem lz_ysr (hx : p.tables.exec = Jvm.exec) (hb : c.code = cc) {x y : Int} (hdg : decode cc pc = .ok (.ishr, 1)) (k : W p l e R s m args below meth c H locs cells slots Q (F0 m (pc + 1) ls (.int (zI (ysr x y)) :: rest))) : W p l e R s m args below meth c H locs cells slots Q (F0 m pc ls (.int (zI y) :: .int (zI x) :: rest)) := lv_ishr hx hb hdg (by unfold ysr at k; rw [zI_of] at k; exact k)
theorem lz_yus (hx : p.tables.exec = Jvm.exec) (hb : c.code = cc) {x y : Int} (hdg : decode cc pc = .ok (.iushr, 1)) (k : W p l e R s m args below meth c H locs cells slots Q (F0 m (pc + 1) ls (.int (zI (yus x y)) :: rest))) : W p l e R s m args below meth c H locs cells slots Q (F0 m pc ls (.int (zI y) :: .int (zI x) :: rest)) := lv_iushr hx hb hdg rfl (by unfold yus at k; rw [zI_of] at k; exact k)
theorem lz_lcmp (hx : p.tables.exec = Jvm.exec) (hb : c.code = cc) {x y : Int64} (hdg : decode cc pc = .ok (.lcmp, 1)) (k : W p l e R s m args below meth c H locs cells slots Q (F0 m (pc + 1) ls (.int (zI (ylc x y)) :: rest))) : W p l e R s m args below meth c H locs cells slots Q (F0 m pc ls (.long y :: .long x :: rest)) := W.lcmp hx hb hdg (by unfold ylc at k; rw [zI_of] at k; exact k)
theorem lz_fcmp (hx : p.tables.exec = Jvm.exec) (hb : c.code = cc) {x y : UInt32} (hdg : decode cc pc = .ok (.fcmp .l, 1)) (k : W p l e R s m args below meth c H locs cells slots Q (F0 m (pc + 1) ls (.int (zI (yfc x y)) :: rest))) : W p l e R s m args below meth c H locs cells slots Q (F0 m pc ls (.float y :: .float x :: rest)) := lv_fcmp hx hb hdg (by unfold yfc at k; rw [zI_of] at k; exact k)
theorem ygld (hx : p.tables.exec = Jvm.exec) (hb : c.code = cc) (hK : zK D (zT cI cZ cF cL cD) s) (hG : yG D cI cZ cF q1 F1 S1 q2 F2 S2 qd dv E1 E2 H0 H locs) {i : Int} (hi : 0 ≤ i ∧ i < 26) (hdg : decode cc pc = .ok (.iaload, 1)) (kk : W p l e R s m args below meth c H locs cells slots Q (F0 m (pc + 1) ls (.int (zI (dv i)) :: rest))) : W p l e R s m args below meth c H locs cells slots Q (F0 m pc ls (.int (zI i) :: .ref qd :: rest)) := by
  refine va_iald (D := D) hx hb hK.1 hG.1.2.2.1 0 0 (rfl : [(qd, (.inl (cI, 26, .inl (zA dv)) : va_E))][0]? = some (qd, .inl (cI, 26, .inl (zA dv)))) rfl (zI_in hi (by decide)) hdg ?_
  rw [zA_at (n := 26) hi (by decide)]
  exact kk
theorem yiast {T : List (ClassId × FieldType)} {A : Nat → Prop} {cA : ClassId} {a n t0 : Nat} {f : Nat → Int32} (hx : p.tables.exec = Jvm.exec) (hb : c.code = cc) (hK : zK D T s) (ht : T[t0]? = some (cA, .int)) (ha : H[a]? = some (vp_cell cA (n, .inl f))) (hS : va_S A H0 H locs) (hA : A a) {i x : Int32} (hin : vp_in i n) (hdg : decode cc pc = .ok (.iastore, 1)) (kk : ∀ (H1 : Heap) (locs1 : List Loc), H1[a]? = some (vp_cell cA (n, .inl (upd f i.toNatClampNeg x))) → (∀ q, q ≠ a → H1[q]? = H[q]?) → va_S A H0 H1 locs1 → W p l e R s m args below meth c H1 locs1 cells slots Q (F0 m (pc + 1) ls rest)) : W p l e R s m args below meth c H locs cells slots Q (F0 m pc ls (.int x :: .int i :: .ref a :: rest)) := by
  refine W.iast hx hb ha ((hK.1.2 t0 _ ht).1 n (fun j => .int (f j))) (fun q => by cases q) (by show ¬ (i < 0 ∨ (arrV _ _ _).slots.size ≤ _); rw [arrV_size]; exact hin) rfl rfl hdg fun H1 e9 z oq => ?_
  refine kk H1 _ ?_ oq (hS.put z oq hA)
  rw [e9]
  rw [vp_cell_i, vp_cell_i, arrV_store]
  congr 2
  funext q
  by_cases hq : q = i.toNatClampNeg
  · subst hq
    simp [updV, upd]
  · simp [updV, upd, hq]
theorem ygst (hx : p.tables.exec = Jvm.exec) (hb : c.code = cc) (hK : zK D (zT cI cZ cF cL cD) s) (hG : yG D cI cZ cF q1 F1 S1 q2 F2 S2 qd dv E1 E2 H0 H locs) {i x : Int} (hi : 0 ≤ i ∧ i < 26) (hdg : decode cc pc = .ok (.iastore, 1)) (kk : ∀ (H1 : Heap) (locs1 : List Loc), yG D cI cZ cF q1 F1 S1 q2 F2 S2 qd (zup dv i x) E1 E2 H0 H1 locs1 → W p l e R s m args below meth c H1 locs1 cells slots Q (F0 m (pc + 1) ls rest)) : W p l e R s m args below meth c H locs cells slots Q (F0 m pc ls (.int (zI x) :: .int (zI i) :: .ref qd :: rest)) := by
  obtain ⟨⟨h1, h2, h3, h4, h5, h6⟩, p1, p2, hS⟩ := hG
  refine yiast (a := qd) (n := 26) (t0 := 0) (f := zA dv) hx hb hK rfl (h3 0 _ rfl) hS (Or.inr (Or.inr (Or.inl rfl))) (zI_in (n := 26) hi (by decide)) hdg (fun H1 locs1 e9 oq hS1 => ?_)
  rw [zA_up (n := 26) hi (by decide)] at e9
  refine kk H1 locs1 ⟨⟨yOb_kept h1 (fun x hx => oq x (fun z => h5 (z ▸ hx))), yOb_kept h2 (fun x hx => oq x (fun z => h6 (z ▸ hx))), fun k q hk => ?_, h4, h5, h6⟩, p1, p2, hS1⟩
  match k, hk with
  | 0, hk => cases hk; exact e9
  | k + 1, hk => cases hk
theorem yret0 (hx : p.tables.exec = Jvm.exec) (hb : c.code = cc) (hr : meth.sig.returnType = some .int) (hlocks : meth.locks = false) {v : Int32} {P : Int32 → Prop} {fr : Nat → Prop} (hQ : Q = MQ below (va_Qi (fun (r : Int32) (_ : Unit) => P r) (fun _ _ => True) fr) args s 0 0 fr) (hS : va_S fr s.heap H locs) (hp : P v) (hdg : decode cc pc = .ok (.ireturn, 1)) : W p l e R s m args below meth c H locs 0 0 Q (F0 m pc ls [.int v]) := by
  subst hQ
  exact W.iret (v := v) hx hb hr (fun t ht hW => ⟨⟨v, (), rfl, hp, trivial⟩, hS.F ht⟩) hS.2.2 hdg hlocks
theorem yreti (hx : p.tables.exec = Jvm.exec) (hb : c.code = cc) (hr : meth.sig.returnType = some .int) (hlocks : meth.locks = false) {v : Int32} {P : Int32 → Prop} {mc ms : Nat} (hQ : Q = MQ below (yQLi D cI cZ cF q1 E1 q2 E2 qd s.heap.size P S1 S2 dv) args s mc ms (yA E1 E2 qd s.heap.size)) (hG : yG D cI cZ cF q1 F1 S1 q2 F2 S2 qd dv E1 E2 s.heap H locs) (hp : P v) (hc : cells ≤ mc ∧ slots ≤ ms) (hdg : decode cc pc = .ok (.ireturn, 1)) : W p l e R s m args below meth c H locs cells slots Q (F0 m pc ls [.int v]) := by
  subst hQ
  exact W.widen hc.1 hc.2 (W.iret (v := v) hx hb hr (fun t ht hW => ⟨⟨v, (F1, F2), rfl, ⟨hp, hG.2.1, hG.2.2.1⟩, by show yW D cI cZ cF q1 F1 S1 q2 F2 S2 qd dv t.heap; rw [ht]; exact hG.1⟩, hG.2.2.2.F ht⟩) hG.2.2.2.2.2 hdg hlocks)
theorem yretz (hx : p.tables.exec = Jvm.exec) (hb : c.code = cc) (hr : meth.sig.returnType = some .boolean) (hlocks : meth.locks = false) {v : Int32} {P : Int32 → Prop} {mc ms : Nat} (hQ : Q = MQ below (yQLi D cI cZ cF q1 E1 q2 E2 qd s.heap.size P S1 S2 dv) args s mc ms (yA E1 E2 qd s.heap.size)) (hG : yG D cI cZ cF q1 F1 S1 q2 F2 S2 qd dv E1 E2 s.heap H locs) (hp : P v) (hc : cells ≤ mc ∧ slots ≤ ms) (hbool : narrow .boolean (.int v) = .int v) (hdg : decode cc pc = .ok (.ireturn, 1)) : W p l e R s m args below meth c H locs cells slots Q (F0 m pc ls [.int v]) := by
  subst hQ
  exact W.widen hc.1 hc.2 (W.zret (v := v) hx hb hr hbool (fun t ht hW => ⟨⟨v, (F1, F2), rfl, ⟨hp, hG.2.1, hG.2.2.1⟩, by show yW D cI cZ cF q1 F1 S1 q2 F2 S2 qd dv t.heap; rw [ht]; exact hG.1⟩, hG.2.2.2.F ht⟩) hG.2.2.2.2.2 hdg hlocks)
theorem yretl (hx : p.tables.exec = Jvm.exec) (hb : c.code = cc) (hr : meth.sig.returnType = some .long) (hlocks : meth.locks = false) {v : Int64} {P : Int64 → Prop} {mc ms : Nat} (hQ : Q = MQ below (yQLl D cI cZ cF q1 E1 q2 E2 qd s.heap.size P S1 S2 dv) args s mc ms (yA E1 E2 qd s.heap.size)) (hG : yG D cI cZ cF q1 F1 S1 q2 F2 S2 qd dv E1 E2 s.heap H locs) (hp : P v) (hc : cells ≤ mc ∧ slots ≤ ms) (hdg : decode cc pc = .ok (.lreturn, 1)) : W p l e R s m args below meth c H locs cells slots Q (F0 m pc ls [.long v]) := by
  subst hQ
  exact W.widen hc.1 hc.2 (W.lret (v := v) hx hb hr (fun t ht hW => ⟨⟨v, (F1, F2), rfl, ⟨hp, hG.2.1, hG.2.2.1⟩, by show yW D cI cZ cF q1 F1 S1 q2 F2 S2 qd dv t.heap; rw [ht]; exact hG.1⟩, hG.2.2.2.F ht⟩) hG.2.2.2.2.2 hdg hlocks)
theorem yretx (hx : p.tables.exec = Jvm.exec) (hb : c.code = cc) (hr : meth.sig.returnType = some .int) (hlocks : meth.locks = false) {v : Int32} {P : Int32 → Prop} {XC : String → State → State → Prop} {mc ms : Nat} (hQ : Q = vx_MQ below (yQLi D cI cZ cF q1 E1 q2 E2 qd s.heap.size P S1 S2 dv) XC args s mc ms (yA E1 E2 qd s.heap.size)) (hG : yG D cI cZ cF q1 F1 S1 q2 F2 S2 qd dv E1 E2 s.heap H locs) (hp : P v) (hc : cells ≤ mc ∧ slots ≤ ms) (hdg : decode cc pc = .ok (.ireturn, 1)) : W p l e R s m args below meth c H locs cells slots Q (F0 m pc ls [.int v]) := by
  subst hQ
  exact vx_ret (yreti hx hb hr hlocks rfl hG hp hc hdg)
theorem yxout {Qc : Array Value → State → Outcome → State → Prop} {t : Int} {E : String} {ce : Cell} {q : Addr} {mc ms : Nat} (hQ : Q = vx_MQ below Qc (yXL D cI cZ cF q1 E1 q2 E2 qd s.heap.size t S1 S2 dv) args s mc ms (yA E1 E2 qd s.heap.size)) (hnh : ∀ x ∈ c.exceptionTable.toList, False) (hlocks : meth.locks = false) (hG : yG D cI cZ cF q1 F1 S1 q2 F2 S2 qd dv E1 E2 s.heap H locs) (hE : zEx E t) (hc : cells ≤ mc ∧ slots ≤ ms) (hce : H[q]? = some ce) (hcv : ce.vm = .none) (hcl : s.vm.findClass E = some ce.cls) : vx_W p l e R s m args below meth c H locs cells slots Q (F0 m pc ls rest) q := by
  subst hQ
  exact vx_out (fun x hx => (hnh x hx).elim) hlocks hce hcv hcl (fun u ht hA => ⟨(F1, F2), ⟨hG.2.1, hG.2.2.1⟩, ⟨hE, by show yW D cI cZ cF q1 F1 S1 q2 F2 S2 qd dv u.heap; rw [ht]; exact hG.1⟩, hG.2.2.2.F ht⟩) hG.2.2.2.2.2 hc.1 hc.2
end YLR
theorem yMet0 {l : Launch} {D : va_G} {T : List (ClassId × FieldType)} {sz : Nat} {fr : Nat → Prop} {Bp : Heap → Prop} {av : List Value} {y : MethodName} {cc : ByteArray} {maxL : Nat} {ret : Option FieldType} {rm : Room} {Qc : Array Value → State → Outcome → State → Prop} {mc ms : Nat}
    (hy : plainName y.cls = true) (hlen : (lg_sl av).length ≤ maxL)
    (body : ∀ (p : Program) (e : Env) (s : State) (m : MethodId) (args : Array Value) (below : List Frame) (meth : Method) (c : Code) (Q : State → Prop), p.tables.exec = Jvm.exec → c.code = cc → meth.sig.returnType = ret → meth.locks = false → c.maxLocals = maxL → s.vm.findClass y.cls = some m.cls → (∀ w ∈ wsL_law, w.before args s = true) → zK D T s → zXs fr s s.heap → zNc s → s.heap.size = sz → Q = MQ below Qc args s mc ms fr → Bp s.heap → va_S fr s.heap s.heap [] → ∀ ls : Array Slot, lv_has ls maxL (lv_args 0 av) →
      W p l e rm s m args below meth c s.heap [] 0 0 Q (F0 m 0 ls [])) :
    Met l y (Cond.code y cc maxL ret :: wsL_law) rm (yPc D T sz fr Bp av) Qc mc ms fr := by
  refine Met.ofW (cc := cc) (maxL := maxL) (ret := ret) (ws' := wsL_law) hy rfl ?_
  intro p e s m args below meth c s₁ B hml hv
  obtain ⟨rfl, hsz, hB, hK, hX, hN⟩ := hv
  have hts := atoms_spec (ws := Cond.code y cc maxL ret :: wsL_law) B.pre
  have hown : s.vm.findClass y.cls = some m.cls := findClass_of_methodNamed B.named
  have hl := lv_entry av (n := maxL) hlen
  rw [lg_entry_eq]
  exact body p e s m _ below meth c _ B.exec B.bytes B.returns B.notSynchronized hml hown (fun w hw => hts w (List.mem_cons_of_mem _ hw)) hK hX hN hsz rfl hB va_S.rf _ hl
theorem yMetX {l : Launch} {D : va_G} {T : List (ClassId × FieldType)} {sz : Nat} {fr : Nat → Prop} {Bp : Heap → Prop} {av : List Value} {y : MethodName} {cc : ByteArray} {maxL : Nat} {ret : Option FieldType} {rm : Room} {Qc : Array Value → State → Outcome → State → Prop} {XC : String → State → State → Prop} {mc ms : Nat}
    (hy : plainName y.cls = true) (hlen : (lg_sl av).length ≤ maxL)
    (body : ∀ (p : Program) (e : Env) (s : State) (m : MethodId) (args : Array Value) (below : List Frame) (meth : Method) (c : Code) (Q : State → Prop), p.tables.exec = Jvm.exec → c.code = cc → meth.sig.returnType = ret → meth.locks = false → c.maxLocals = maxL → s.vm.findClass y.cls = some m.cls → (∀ w ∈ wsL_law, w.before args s = true) → (∀ x ∈ c.exceptionTable.toList, False) → zK D T s → zXs fr s s.heap → zNc s → s.heap.size = sz → Q = vx_MQ below Qc XC args s mc ms fr → Bp s.heap → va_S fr s.heap s.heap [] → ∀ ls : Array Slot, lv_has ls maxL (lv_args 0 av) →
      W p l e rm s m args below meth c s.heap [] 0 0 Q (F0 m 0 ls [])) :
    vx_Met l y (Cond.code y cc maxL ret :: wsL_law) rm (yPc D T sz fr Bp av) Qc XC mc ms fr := by
  refine vx_ofW (cc := cc) (maxL := maxL) (ret := ret) (ws' := wsL_law) hy rfl ?_
  intro p e s m args below meth c s₁ B hml hnh hv
  obtain ⟨rfl, hsz, hB, hK, hX, hN⟩ := hv
  have hts := atoms_spec (ws := Cond.code y cc maxL ret :: wsL_law) B.pre
  have hown : s.vm.findClass y.cls = some m.cls := findClass_of_methodNamed B.named
  have hl := lv_entry av (n := maxL) hlen
  rw [lg_entry_eq]
  exact body p e s m _ below meth c _ B.exec B.bytes B.returns B.notSynchronized hml hown (fun w hw => hts w (List.mem_cons_of_mem _ hw)) hnh hK hX hN hsz rfl hB va_S.rf _ hl
theorem yMetH {l : Launch} {D : va_G} {T : List (ClassId × FieldType)} {sz : Nat} {fr : Nat → Prop} {Bp : Heap → Prop} {av : List Value} {y : MethodName} {cc : ByteArray} {maxL : Nat} {ret : Option FieldType} {hh : List (Nat × Nat × Nat × Nat)} {rm : Room} {Qc : Array Value → State → Outcome → State → Prop} {mc ms : Nat}
    (hy : plainName y.cls = true) (hlen : (lg_sl av).length ≤ maxL)
    (body : ∀ (p : Program) (e : Env) (s : State) (m : MethodId) (args : Array Value) (below : List Frame) (meth : Method) (c : Code) (Q : State → Prop), p.tables.exec = Jvm.exec → c.code = cc → meth.sig.returnType = ret → meth.locks = false → c.maxLocals = maxL → s.vm.findClass y.cls = some m.cls → (∀ w ∈ wsL_law, w.before args s = true) → c.exceptionTable.toList = tableOf hh → zK D T s → zXs fr s s.heap → zNc s → s.heap.size = sz → Q = MQ below Qc args s mc ms fr → Bp s.heap → va_S fr s.heap s.heap [] → ∀ ls : Array Slot, lv_has ls maxL (lv_args 0 av) →
      W p l e rm s m args below meth c s.heap [] 0 0 Q (F0 m 0 ls [])) :
    Met l y (Cond.codeWith y cc maxL ret hh :: wsL_law) rm (yPc D T sz fr Bp av) Qc mc ms fr := by
  refine va_MetW (cc := cc) (maxL := maxL) (ret := ret) (hh := hh) (ws' := wsL_law) hy rfl ?_
  intro p e s m args below meth c s₁ B hml hv
  obtain ⟨rfl, hsz, hB, hK, hX, hN⟩ := hv
  have hts := atoms_spec (ws := Cond.codeWith y cc maxL ret hh :: wsL_law) B.pre
  have hown : s.vm.findClass y.cls = some m.cls := findClass_of_methodNamed B.named
  have htab : c.exceptionTable.toList = tableOf hh := vx_table (x := y) B (hts _ List.mem_cons_self)
  have hl := lv_entry av (n := maxL) hlen
  rw [lg_entry_eq]
  exact body p e s m _ below meth c _ B.exec B.bytes B.returns B.notSynchronized hml hown (fun w hw => hts w (List.mem_cons_of_mem _ hw)) htab hK hX hN hsz rfl hB va_S.rf _ hl
