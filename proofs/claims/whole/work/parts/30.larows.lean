section ZLA
variable {p : Program} {l : Launch} {e : Env} {R : Room} {s : State} {m : MethodId} {args : Array Value} {below : List Frame} {meth : Method} {c : Code} {H : Heap} {locs : List Loc} {cells slots : Nat} {Q : State → Prop}
variable {cc : ByteArray} {pc : Nat} {ls : Array Slot} {rest : List Value} {A : Nat → Prop} {H0 : Heap}
theorem lz_tern (hx : p.tables.exec = Jvm.exec) (hb : c.code = cc) {w : Int} (h : zR w) (d0 : decode cc pc = .ok (.ifCond .eq 7, 3)) (d1 : decode cc (pc + 3) = .ok (.iconst 1, 1)) (d2 : decode cc (pc + 4) = .ok (.goto 4, 3)) (d3 : decode cc (pc + 7) = .ok (.iconst 0, 1)) (k : W p l e R s m args below meth c H locs cells slots Q (F0 m (pc + 8) ls (.int (zI (if w = 0 then 0 else 1)) :: rest))) : W p l e R s m args below meth c H locs cells slots Q (F0 m pc ls (.int (zI w) :: rest)) := by
  refine lz_if_eq (tgt := pc + 7) hx hb h d0 (by omega) (fun c => ?_) (fun c => ?_)
  · rw [if_pos c] at k
    exact lv_iconst (v := zI 0) hx hb d3 (by decide +kernel) k
  · rw [if_neg c] at k
    exact lv_iconst (v := zI 1) hx hb d1 (by decide +kernel) (lv_goto (tgt := pc + 8) hx hb d2 (by omega) k)
theorem lz_sld (hx : p.tables.exec = Jvm.exec) (hb : c.code = cc) {b L : Nat} {xs : Nat → Int32} (hX : va_X b L xs s H0) (hbl : b < H0.size) (hbA : ¬ A b) (hS : va_S A H0 H locs) {ii w : Int} (hi : 0 ≤ ii ∧ ii + 7 ≤ L) (hL : L ≤ 3584) (k : Nat) (hk : k < 7) (hw : xs (ii.toNat + k) = zI w) (hdg : decode cc pc = .ok (.iaload, 1)) (kk : W p l e R s m args below meth c H locs cells slots Q (F0 m (pc + 1) ls (.int (zI w) :: rest))) : W p l e R s m args below meth c H locs cells slots Q (F0 m pc ls (.int (zI (ii + (k : Int))) :: .ref b :: rest)) := by
  have h1 : 0 ≤ ii + (k : Int) ∧ ii + (k : Int) < (L : Int) := by omega
  refine va_sld hx hb hX hbl hbA hS (zI_in h1 (by omega)) hdg ?_
  rw [zI_cl h1 (by omega), show (ii + (k : Int)).toNat = ii.toNat + k by omega, hw]
  exact kk
theorem lz_lcmpeq (hx : p.tables.exec = Jvm.exec) (hb : c.code = cc) {x y : Int} {off : Int} {tgt : Nat} (h : zR x ∧ zR y) (hdg : decode cc pc = .ok (.lcmp, 1)) (hd2 : decode cc (pc + 1) = .ok (.ifCond .eq off, 3)) (ht : ((pc + 1 : Nat) : Int) + off = (tgt : Int)) (kt : x = y → W p l e R s m args below meth c H locs cells slots Q (F0 m tgt ls rest)) (kf : ¬ x = y → W p l e R s m args below meth c H locs cells slots Q (F0 m (pc + 1 + 3) ls rest)) : W p l e R s m args below meth c H locs cells slots Q (F0 m pc ls (.long (zI y).toInt64 :: .long (zI x).toInt64 :: rest)) := by
  have e64 : ∀ z : Int, zR z → (zI z).toInt64.toInt = z := fun z hz => by rw [Int32.toInt_toInt64, zI_toInt hz]
  have h2 : (zI x).toInt64 = (zI y).toInt64 ↔ x = y := ⟨fun z => by rw [← e64 x h.1, ← e64 y h.2, z], fun z => by rw [z]⟩
  refine W.lcmp hx hb hdg ?_
  refine lv_if_eq hx hb hd2 ht (fun q => kt (h2.mp ((lg_cmp_eq _ _).mp q))) (fun q => kf (fun z => q ((lg_cmp_eq _ _).mpr (h2.mpr z))))
end ZLA
def zcd (x : UInt64) : Int32 := Op.cmpValue (FP.dcmp x x) .l
