/-! ===== the law's own loop ===== -/
theorem yLv_up {S : yS} {dv : Int → Int} {B B' : Int} (h : yLv S dv B) (hB : B ≤ B') : yLv S dv B' := by
  obtain ⟨hW, d0, d1, d2, d3, d4, d5, d5z, d6⟩ := h
  exact ⟨hW, d0, d1, d2, d3, d4, d5, d5z, fun i i0 i1 => by have := d6 i i0 i1; omega⟩
section YC
variable {p : Program} {l : Launch} {e : Env} {R : Room} {s : State} {m : MethodId} {args : Array Value} {below : List Frame} {meth : Method} {c : Code} {H : Heap} {locs : List Loc} {cells slots : Nat} {Q : State → Prop}
variable {cc : ByteArray} {pc : Nat} {ls : Array Slot} {rest : List Value} {A : Nat → Prop}
theorem ycCell {nL b L : Nat} {xs : Nat → Int32} {k : Int} (hx : p.tables.exec = Jvm.exec) (hb : c.code = cc) (hml : c.maxLocals = nL) (hown : s.vm.findClass RL = some m.cls) (hts : ∀ w ∈ wsL_law, w.before args s = true) (hsz : ls.size = nL) (hX0 : va_X b L xs s s.heap) (hbl : b < s.heap.size) (hbA : ¬ A b) (hA : ∀ q, H.size ≤ q → A q) (hS : va_S A s.heap H locs) (hk : 0 ≤ k ∧ k ≤ 1000) (hL : L ≤ 260)
    (hR : rmL_cell.frames + 1 ≤ R.frames ∧ 8 + (3 + 11) + rmL_cell.locals ≤ R.locals) (hcs : cells + 0 ≤ R.cells ∧ slots + 0 ≤ R.slots) (hrest : (rest.map fun v => v.category).sum ≤ 8) (hdg : decode cc pc = .ok (.invokestatic 141, 3))
    (kk : ∀ (r : Int) (H1 : Heap) (locs1 : List Loc), H.size ≤ H1.size → (∀ q, q < H.size → ¬ H.size ≤ q → H1[q]? = H[q]?) → va_S A s.heap H1 locs1 → W p l e R s m args below meth c H1 locs1 cells slots Q (F0 m (pc + 3) ls (.int (zI r) :: rest))) : W p l e R s m args below meth c H locs cells slots Q (F0 m pc ls (.int (zI k) :: .ref b :: rest)) := by
  have hX : va_X b L xs s H := hX0.kept (hS.2.1 b hbl hbA)
  have hM := c_L_cell (l := l) (b := b) (L := L) (sz := H.size) (xs := xs) (k := k) hk hL
  have cw : CallB R s args RL 141 yL_cell cL_cell 3 (some .int) (Cond.code yL_cell cL_cell 3 (some .int) :: wsL_law) rmL_cell 0 0 2 ∧ (Cond.static yL_cell).before args s = true := ⟨callB_of 2 hts (zk_in _ (fun w hw => by
    rcases List.mem_cons.mp hw with rfl | hw
    · exact zk_t1_179
    · exact hw)) rfl rfl rfl (hts _ zk_t1_0) (hts _ zk_t1_177) hd_L_cell hR, hts _ zk_t1_178⟩
  refine va_calli (va_runS (As := [.ref b, .int (zI k)]) (rest := rest) ⟨hx, hb, hml, hown, hts⟩ hM cw ⟨yPcell_blind, fun U hU hW => ⟨rfl, by rw [hU], by rw [hU]; exact va_X.moved hW.alike hX⟩⟩ rfl rfl hsz rfl (lv_room hrest) hdg hcs) hS (fun q _ h => hA q h) hA (fun r u t H1 locs1 ht hvm hw hB hz1 hk1 hS => ?_)
  have := kk r.toInt H1 locs1 hz1 hk1 hS
  rw [zI_of] at this
  exact this
end YC
set_option maxHeartbeats 4000000 in
set_option maxRecDepth 100000 in
theorem yl_loop {p : Program} {l : Launch} {e : Env} {s : State} {m : MethodId} {args : Array Value} {below : List Frame} {meth : Method} {c : Code} {Q : State → Prop} {D : va_G} {cI cZ cF cL cD : ClassId} {b L q1 q2 qd : Nat} {xs : Nat → Int32} {E1 E2 : Nat → Prop} (hx : p.tables.exec = Jvm.exec) (hb : c.code = cL_law) (hml : c.maxLocals = 9) (hown : s.vm.findClass RL = some m.cls) (hts : ∀ w ∈ wsL_law, w.before args s = true) (hst : l.stackTraces = false) (hNc : zNc s) (hX0 : va_X b L xs s s.heap) (hbl : b < s.heap.size) (hbA : ¬ yA E1 E2 qd s.heap.size b) (hK : zK D (zT cI cZ cF cL cD) s) (hX : zXs (yA E1 E2 qd s.heap.size) s s.heap) (hL : L ≤ 260)
    (kk : ∀ (H1 : Heap) (locs1 : List Loc) (cells1 slots1 : Nat) (ls : Array Slot), cells1 ≤ 600074 → slots1 ≤ 7301549 → va_S (yA E1 E2 qd s.heap.size) s.heap H1 locs1 → W p l e room_1 s m args below meth c H1 locs1 cells1 slots1 Q (F0 m 239 ls [.int (zI 1)])) :
    ∀ (n : Nat) (k : Int) (S : yS) (dv : Int → Int) (F1 F2 : Nat → Prop) (H : Heap) (locs : List Loc) (cells slots : Nat) (ls : Array Slot), k + n = 60 → 0 ≤ k → yLv S dv (20000 * k) → yG D cI cZ cF q1 F1 S q2 F2 S qd dv E1 E2 s.heap H locs → cells + 191 * n ≤ 600074 → slots + 113358 * n ≤ 7301549 → lv_has ls 9 [(5, .int (zI k)), (4, .int (zI 1)), (3, .ref qd), (2, .ref q2), (1, .ref q1), (0, .ref b)] → W p l e room_1 s m args below meth c H locs cells slots Q (F0 m 36 ls []) := by
  intro n
  induction n with
  | zero =>
    intro k S dv F1 F2 H locs cells slots ls hkn hk hlv hG hc hs hl
    refine lv_iload hx hb dL_law_36 (lv_at hl 0 rfl) ?_
    refine lv_bipush (v := zI 60) hx hb dL_law_38 (by decide +kernel) ?_
    refine lz_icmp_ge (tgt := 207) hx hb ⟨⟨by omega, by omega⟩, ⟨by omega, by omega⟩⟩ dL_law_40 (by decide) (fun q => ?_) (fun q => absurd (show (60 : Int) ≤ k by omega) q)
    refine lv_iload hx hb dL_law_207 (lv_at hl 1 rfl) ?_
    refine lz_if_eq (tgt := 238) hx hb (by decide) dL_law_209 (by decide) (fun q => absurd q (by decide)) (fun _ => ?_)
    obtain ⟨v, ev⟩ := yl_all hlv
    refine lv_aload_n hx hb dL_law_212 rfl (lv_at hl 4 rfl) ?_
    refine lv_aload_n hx hb dL_law_213 rfl (lv_at hl 2 rfl) ?_
    refine ycSl (As := [.ref q1, .ref qd]) (rest := []) hx hb hml hown hts hl.1 hK (hX.kept hG.2.2.2.2.1) hNc hG.1 (yG_fw hG) hG.2.2.2 (c_L_all hst ev) zk_t1_185 zk_t1_186 zk_t1_0 zk_t1_187 hd_L_all rfl ⟨rfl, rfl, Nat.le_of_ble_eq_true rfl, Nat.le_of_ble_eq_true rfl⟩ ⟨by show _ ≤ 600074; omega, by show _ ≤ 7301549; omega⟩ rfl (Nat.le_of_ble_eq_true rfl) dL_law_214 (fun r u H locs hp hW9 hz hk9 hS => ?_)
    have hG := yG_w hG hW9 hp.2 hz hS
    have hr9 := hp.1
    subst hr9
    refine lv_aload_n hx hb dL_law_217 rfl (lv_at hl 3 rfl) ?_
    refine lv_aload_n hx hb dL_law_218 rfl (lv_at hl 2 rfl) ?_
    refine ycSl (As := [.ref q2, .ref qd]) (rest := [.long r]) hx hb hml hown hts hl.1 hK (hX.kept hG.2.2.2.2.1) hNc hG.1.swap (yG_fs hG) hG.2.2.2 (c_L_all hst ev) zk_t1_185 zk_t1_186 zk_t1_0 zk_t1_187 hd_L_all rfl ⟨rfl, rfl, Nat.le_of_ble_eq_true rfl, Nat.le_of_ble_eq_true rfl⟩ ⟨by show _ ≤ 600074; omega, by show _ ≤ 7301549; omega⟩ rfl (Nat.le_of_ble_eq_true rfl) dL_law_219 (fun r2 u H locs hp hW9 hz hk9 hS => ?_)
    have hG := yG_s hG hW9 hp.2 hz hS
    have hr9 := hp.1
    subst hr9
    refine lz_lcmp hx hb dL_law_222 ?_
    rw [ylc_0]
    refine lz_if_ne (tgt := 238) hx hb (by decide) dL_law_223 (by decide) (fun q => absurd rfl q) (fun _ => ?_)
    refine lv_aload_n hx hb dL_law_226 rfl (lv_at hl 4 rfl) ?_
    refine lv_aload_n hx hb dL_law_227 rfl (lv_at hl 2 rfl) ?_
    refine ycSi (As := [.ref q1, .ref qd]) (rest := []) hx hb hml hown hts hl.1 hK (hX.kept hG.2.2.2.2.1) hNc hG.1 (yG_fw hG) hG.2.2.2 (c_L_sound hst (yl_sound hlv)) zk_t4_79 zk_t4_80 zk_t1_0 zk_t4_81 hd_L_sound rfl ⟨rfl, rfl, Nat.le_of_ble_eq_true rfl, Nat.le_of_ble_eq_true rfl⟩ ⟨by show _ ≤ 600074; omega, by show _ ≤ 7301549; omega⟩ rfl (Nat.le_of_ble_eq_true rfl) dL_law_228 (fun r u H locs hp hW9 hz hk9 hS => ?_)
    have hG := yG_w hG hW9 hp.2 hz hS
    have hr9 := hp.1
    subst hr9
    refine lz_if_eq (tgt := 238) hx hb (by decide) dL_law_231 (by decide) (fun q => absurd q (by decide)) (fun _ => ?_)
    refine lv_iconst (v := zI 1) hx hb dL_law_234 (by decide +kernel) ?_
    refine lv_goto (tgt := 239) hx hb dL_law_235 (by decide) ?_
    exact kk H locs _ _ ls (by omega) (by omega) hG.2.2.2
  | succ n ih =>
    intro k S dv F1 F2 H locs cells slots ls hkn hk hlv hG hc hs hl
    -- the end of a turn
    have J194 : ∀ (S : yS) (dv : Int → Int) (F1 F2 : Nat → Prop) (H : Heap) (locs : List Loc) (c1 s1 : Nat) (ls : Array Slot), yLv S dv (20000 * (k + 1)) → yG D cI cZ cF q1 F1 S q2 F2 S qd dv E1 E2 s.heap H locs → c1 ≤ cells + 191 → s1 ≤ slots + 113358 → lv_has ls 9 [(4, .int (zI 1)), (5, .int (zI k)), (3, .ref qd), (2, .ref q2), (1, .ref q1), (0, .ref b)] → W p l e room_1 s m args below meth c H locs c1 s1 Q (F0 m 194 ls []) := by
      intro S dv F1 F2 H locs c1 s1 ls hlv hG h1 h2 hl
      refine lv_iconst (v := zI 1) hx hb dL_law_194 (by decide +kernel) ?_
      refine lv_goto (tgt := 199) hx hb dL_law_195 (by decide) ?_
      refine lv_istore (lv' := [(4, .int (zI 1)), (5, .int (zI k)), (3, .ref qd), (2, .ref q2), (1, .ref q1), (0, .ref b)]) hx hb dL_law_199 hl (by decide) rfl (fun ls hl => ?_)
      refine lz_iinc (lv' := [(5, .int (zI (k + 1))), (4, .int (zI 1)), (3, .ref qd), (2, .ref q2), (1, .ref q1), (0, .ref b)]) hx hb dL_law_201 hl (j := 1) rfl (by decide) rfl (fun ls hl => ?_)
      refine lv_goto (tgt := 36) hx hb dL_law_204 (by decide) ?_
      exact ih (k + 1) S dv F1 F2 H locs c1 s1 ls (by omega) (by omega) hlv hG (by omega) (by omega) hl
    have J178 : ∀ (S : yS) (dv : Int → Int) (F1 F2 : Nat → Prop) (H : Heap) (locs : List Loc) (c1 s1 : Nat) (ls : Array Slot), yLv S dv (20000 * (k + 1)) → yG D cI cZ cF q1 F1 S q2 F2 S qd dv E1 E2 s.heap H locs → c1 ≤ cells + 21 → s1 ≤ slots + 12594 → lv_has ls 9 [(4, .int (zI 1)), (5, .int (zI k)), (3, .ref qd), (2, .ref q2), (1, .ref q1), (0, .ref b)] → W p l e room_1 s m args below meth c H locs c1 s1 Q (F0 m 178 ls []) := by
      intro S dv F1 F2 H locs c1 s1 ls hlv hG h1 h2 hl
      refine lv_iload hx hb dL_law_178 (lv_at hl 1 rfl) ?_
      refine lv_bipush (v := zI 30) hx hb dL_law_180 (by decide +kernel) ?_
      refine lz_irem hx hb ⟨⟨⟨by omega, by omega⟩, by decide⟩, by decide⟩ dL_law_182 ?_
      have hr := Int.tmod_eq_emod_of_nonneg (a := k) (b := 30) hk
      refine lz_if_gt (tgt := 194) hx hb (by rw [hr]; omega) dL_law_183 (by decide) (fun _ => J194 S dv F1 F2 H locs c1 s1 ls hlv hG (by omega) (by omega) hl) (fun _ => ?_)
      refine lv_aload_n hx hb dL_law_186 rfl (lv_at hl 4 rfl) ?_
      refine lv_aload_n hx hb dL_law_187 rfl (lv_at hl 2 rfl) ?_
      have r1 : c1 + 170 ≤ 600074 := by omega
      have r3 : c1 + 170 ≤ cells + 191 := by omega
      have r4 : s1 + 100764 ≤ slots + 113358 := Nat.le_trans (Nat.add_le_add_right h2 100764) (Nat.le_of_eq (Nat.add_assoc slots 12594 100764))
      have r2 : s1 + 100764 ≤ 7301549 := Nat.le_trans r4 (Nat.le_trans (Nat.add_le_add_left (Nat.le_mul_of_pos_right 113358 (Nat.succ_pos n)) slots) hs)
      refine ycSi (As := [.ref q1, .ref qd]) (rest := []) (rm := rmL_refused) (mc1 := 170) (ms1 := 100764) hx hb hml hown hts hl.1 hK (hX.kept hG.2.2.2.2.1) hNc hG.1 (yG_fw hG) hG.2.2.2 (c_L_refused hst (yl_refused hlv)) zk_t4_95 zk_t4_96 zk_t1_0 zk_t4_97 hd_L_refused rfl ⟨rfl, rfl, Nat.le_of_ble_eq_true rfl, Nat.le_of_ble_eq_true rfl⟩ ⟨r1, r2⟩ rfl (Nat.le_of_ble_eq_true rfl) dL_law_188 (fun r u H locs hp hW9 hz hk9 hS => ?_)
      have hG := yG_w hG hW9 hp.2 hz hS
      have hr9 := hp.1
      subst hr9
      refine lz_if_eq (tgt := 198) hx hb (by decide) dL_law_191 (by decide) (fun q => absurd q (by decide)) (fun _ => ?_)
      exact J194 S dv _ _ H locs _ _ ls hlv hG r3 r4 hl
    have J141 : ∀ (S : yS) (dv : Int → Int) (F1 F2 : Nat → Prop) (H : Heap) (locs : List Loc) (c1 s1 : Nat) (ls : Array Slot), yLv S dv (20000 * (k + 1)) → yG D cI cZ cF q1 F1 S q2 F2 S qd dv E1 E2 s.heap H locs → c1 ≤ cells + 21 → s1 ≤ slots + 12594 → lv_has ls 9 [(5, .int (zI k)), (3, .ref qd), (2, .ref q2), (1, .ref q1), (0, .ref b)] → W p l e room_1 s m args below meth c H locs c1 s1 Q (F0 m 141 ls [.int (zI 1)]) := by
      intro S dv F1 F2 H locs c1 s1 ls hlv hG h1 h2 hl
      refine lv_istore (lv' := [(4, .int (zI 1)), (5, .int (zI k)), (3, .ref qd), (2, .ref q2), (1, .ref q1), (0, .ref b)]) hx hb dL_law_141 hl (by decide) rfl (fun ls hl => ?_)
      refine lv_iload hx hb dL_law_143 (lv_at hl 0 rfl) ?_
      refine lz_if_eq (tgt := 198) hx hb (by decide) dL_law_145 (by decide) (fun q => absurd q (by decide)) (fun _ => ?_)
      refine lv_iload hx hb dL_law_148 (lv_at hl 1 rfl) ?_
      refine lv_bipush (v := zI 12) hx hb dL_law_150 (by decide +kernel) ?_
      refine lz_irem hx hb ⟨⟨⟨by omega, by omega⟩, by decide⟩, by decide⟩ dL_law_152 ?_
      have hr := Int.tmod_eq_emod_of_nonneg (a := k) (b := 12) hk
      refine lz_if_gt (tgt := 178) hx hb (by rw [hr]; omega) dL_law_153 (by decide) (fun _ => J178 S dv F1 F2 H locs c1 s1 ls hlv hG h1 h2 hl) (fun _ => ?_)
      obtain ⟨v, ev⟩ := yl_all hlv
      refine lv_aload_n hx hb dL_law_156 rfl (lv_at hl 4 rfl) ?_
      refine lv_aload_n hx hb dL_law_157 rfl (lv_at hl 2 rfl) ?_
      refine ycSl (As := [.ref q1, .ref qd]) (rest := []) hx hb hml hown hts hl.1 hK (hX.kept hG.2.2.2.2.1) hNc hG.1 (yG_fw hG) hG.2.2.2 (c_L_all hst ev) zk_t1_185 zk_t1_186 zk_t1_0 zk_t1_187 hd_L_all rfl ⟨rfl, rfl, Nat.le_of_ble_eq_true rfl, Nat.le_of_ble_eq_true rfl⟩ ⟨by show _ ≤ 600074; omega, by show _ ≤ 7301549; omega⟩ rfl (Nat.le_of_ble_eq_true rfl) dL_law_158 (fun r u H locs hp hW9 hz hk9 hS => ?_)
      have hG := yG_w hG hW9 hp.2 hz hS
      have hr9 := hp.1
      subst hr9
      refine lv_aload_n hx hb dL_law_161 rfl (lv_at hl 3 rfl) ?_
      refine lv_aload_n hx hb dL_law_162 rfl (lv_at hl 2 rfl) ?_
      refine ycSl (As := [.ref q2, .ref qd]) (rest := [.long r]) hx hb hml hown hts hl.1 hK (hX.kept hG.2.2.2.2.1) hNc hG.1.swap (yG_fs hG) hG.2.2.2 (c_L_all hst ev) zk_t1_185 zk_t1_186 zk_t1_0 zk_t1_187 hd_L_all rfl ⟨rfl, rfl, Nat.le_of_ble_eq_true rfl, Nat.le_of_ble_eq_true rfl⟩ ⟨by show _ ≤ 600074; omega, by show _ ≤ 7301549; omega⟩ rfl (Nat.le_of_ble_eq_true rfl) dL_law_163 (fun r2 u H locs hp hW9 hz hk9 hS => ?_)
      have hG := yG_s hG hW9 hp.2 hz hS
      have hr9 := hp.1
      subst hr9
      refine lz_lcmp hx hb dL_law_166 ?_
      rw [ylc_0]
      refine lz_if_ne (tgt := 198) hx hb (by decide) dL_law_167 (by decide) (fun q => absurd rfl q) (fun _ => ?_)
      refine lv_aload_n hx hb dL_law_170 rfl (lv_at hl 4 rfl) ?_
      refine lv_aload_n hx hb dL_law_171 rfl (lv_at hl 2 rfl) ?_
      refine ycSi (As := [.ref q1, .ref qd]) (rest := []) hx hb hml hown hts hl.1 hK (hX.kept hG.2.2.2.2.1) hNc hG.1 (yG_fw hG) hG.2.2.2 (c_L_sound hst (yl_sound hlv)) zk_t4_79 zk_t4_80 zk_t1_0 zk_t4_81 hd_L_sound rfl ⟨rfl, rfl, Nat.le_of_ble_eq_true rfl, Nat.le_of_ble_eq_true rfl⟩ ⟨by show _ ≤ 600074; omega, by show _ ≤ 7301549; omega⟩ rfl (Nat.le_of_ble_eq_true rfl) dL_law_172 (fun r u H locs hp hW9 hz hk9 hS => ?_)
      have hG := yG_w hG hW9 hp.2 hz hS
      have hr9 := hp.1
      subst hr9
      refine lz_if_eq (tgt := 198) hx hb (by decide) dL_law_175 (by decide) (fun q => absurd q (by decide)) (fun _ => ?_)
      exact J178 S dv _ _ H locs _ _ ls hlv hG (by omega) (by omega) hl
    refine lv_iload hx hb dL_law_36 (lv_at hl 0 rfl) ?_
    refine lv_bipush (v := zI 60) hx hb dL_law_38 (by decide +kernel) ?_
    refine lz_icmp_ge (tgt := 207) hx hb ⟨⟨by omega, by omega⟩, ⟨by omega, by omega⟩⟩ dL_law_40 (by decide) (fun q => absurd q (by omega)) (fun q => ?_)
    refine lv_iload hx hb dL_law_43 (lv_at hl 1 rfl) ?_
    refine lz_if_eq (tgt := 207) hx hb (by decide) dL_law_45 (by decide) (fun q => absurd q (by decide)) (fun _ => ?_)
    refine lv_aload_n hx hb dL_law_48 rfl (lv_at hl 5 rfl) ?_
    refine lv_iconst (v := zI 2) hx hb dL_law_49 (by decide +kernel) ?_
    refine lv_iload hx hb dL_law_50 (lv_at hl 0 rfl) ?_
    refine lz_imul hx hb dL_law_52 ?_
    refine ycCell (rest := []) hx hb hml hown hts hl.1 hX0 hbl hbA (yG_f0 hG) hG.2.2.2 (by omega) hL ⟨Nat.le_of_ble_eq_true rfl, Nat.le_of_ble_eq_true rfl⟩ ⟨by show _ ≤ 600074; omega, by show _ ≤ 7301549; omega⟩ (Nat.le_of_ble_eq_true rfl) dL_law_53 (fun x H locs hz hk9 hS => ?_)
    have hG := yG_0 hG hz hk9 hS
    refine lv_istore (lv' := [(6, .int (zI x)), (5, .int (zI k)), (4, .int (zI 1)), (3, .ref qd), (2, .ref q2), (1, .ref q1), (0, .ref b)]) hx hb dL_law_56 hl (by decide) rfl (fun ls hl => ?_)
    refine lv_aload_n hx hb dL_law_58 rfl (lv_at hl 6 rfl) ?_
    refine lv_iconst (v := zI 2) hx hb dL_law_59 (by decide +kernel) ?_
    refine lv_iload hx hb dL_law_60 (lv_at hl 1 rfl) ?_
    refine lz_imul hx hb dL_law_62 ?_
    refine lv_iconst (v := zI 1) hx hb dL_law_63 (by decide +kernel) ?_
    refine lz_iadd hx hb dL_law_64 ?_
    refine ycCell (rest := []) hx hb hml hown hts hl.1 hX0 hbl hbA (yG_f0 hG) hG.2.2.2 (by omega) hL ⟨Nat.le_of_ble_eq_true rfl, Nat.le_of_ble_eq_true rfl⟩ ⟨by show _ ≤ 600074; omega, by show _ ≤ 7301549; omega⟩ (Nat.le_of_ble_eq_true rfl) dL_law_65 (fun z H locs hz hk9 hS => ?_)
    have hG := yG_0 hG hz hk9 hS
    refine lv_istore (lv' := [(7, .int (zI z)), (6, .int (zI x)), (5, .int (zI k)), (4, .int (zI 1)), (3, .ref qd), (2, .ref q2), (1, .ref q1), (0, .ref b)]) hx hb dL_law_68 hl (by decide) rfl (fun ls hl => ?_)
    refine lv_iload hx hb dL_law_70 (lv_at hl 1 rfl) ?_
    refine lv_bipush (v := zI 24) hx hb dL_law_72 (by decide +kernel) ?_
    obtain ⟨how, eh, h0, h1⟩ := yl_some (x := x) (n := 24) (by omega)
    refine ycSi (As := [.int (zI x), .int (zI 24)]) (rest := []) (rm := rmL_some) (mc1 := 0) (ms1 := 0) (Bp := fun _ => True) (U := Unit) (post := fun (r : Int32) (_ : Unit) => r = zI how) (Bq := fun _ _ => True) hx hb hml hown hts hl.1 hK (hX.kept hG.2.2.2.2.1) hNc trivial (yG_f0 hG) hG.2.2.2 (c_L_some eh) zk_t1_182 zk_t1_183 zk_t1_0 zk_t1_184 hd_L_some rfl ⟨rfl, rfl, Nat.le_of_ble_eq_true rfl, Nat.le_of_ble_eq_true rfl⟩ ⟨by show _ ≤ 600074; omega, by show _ ≤ 7301549; omega⟩ rfl (Nat.le_of_ble_eq_true rfl) dL_law_74 (fun r u H locs hp _ hz hk9 hS => ?_)
    have hG := yG_0 hG hz hk9 hS
    subst hp
    refine lv_istore (lv' := [(8, .int (zI how)), (7, .int (zI z)), (6, .int (zI x)), (5, .int (zI k)), (4, .int (zI 1)), (3, .ref qd), (2, .ref q2), (1, .ref q1), (0, .ref b)]) hx hb dL_law_77 hl (by decide) rfl (fun ls hl => ?_)
    have J92 : W p l e room_1 s m args below meth c H locs cells slots Q (F0 m 92 ls []) := by
      obtain ⟨S', dv', ef, hlv'⟩ := yl_fields (p3 := ysr x 5) (p4 := z) hlv
      refine lv_aload_n hx hb dL_law_92 rfl (lv_at hl 7 rfl) ?_
      refine lv_aload_n hx hb dL_law_93 rfl (lv_at hl 6 rfl) ?_
      refine lv_aload_n hx hb dL_law_94 rfl (lv_at hl 5 rfl) ?_
      refine lv_iload hx hb dL_law_95 (lv_at hl 2 rfl) ?_
      refine lv_iconst (v := zI 5) hx hb dL_law_97 (by decide +kernel) ?_
      refine lz_ysr hx hb dL_law_98 ?_
      refine lv_iload hx hb dL_law_99 (lv_at hl 1 rfl) ?_
      refine ycSi (As := [.ref q1, .ref q2, .ref qd, .int (zI (ysr x 5)), .int (zI z)]) (rest := []) hx hb hml hown hts hl.1 hK (hX.kept hG.2.2.2.2.1) hNc hG.1 (yG_fw hG) hG.2.2.2 (c_L_fields hst ef) zk_t3_25 zk_t3_26 zk_t1_0 zk_t3_27 hd_L_fields rfl ⟨rfl, rfl, Nat.le_of_ble_eq_true rfl, Nat.le_of_ble_eq_true rfl⟩ ⟨by show _ ≤ 600074; omega, by show _ ≤ 7301549; omega⟩ rfl (Nat.le_of_ble_eq_true rfl) dL_law_101 (fun r u H locs hp hW9 hz hk9 hS => ?_)
      have hG := yG_w hG hW9 hp.2 hz hS
      have hr9 := hp.1
      subst hr9
      refine lv_goto (tgt := 141) hx hb dL_law_104 (by decide) ?_
      exact J141 S' dv' _ _ H locs _ _ ls (yLv_up hlv' (by omega)) hG (by omega) (by omega) (lv_sub hl [3, 5, 6, 7, 8] rfl)
    refine lv_iload hx hb dL_law_79 (lv_at hl 0 rfl) ?_
    refine lv_bipush (v := zI 12) hx hb dL_law_81 (by decide +kernel) ?_
    refine lz_icmp_lt (tgt := 92) hx hb ⟨⟨by omega, by omega⟩, by decide⟩ dL_law_83 (by decide) (fun _ => J92) (fun _ => ?_)
    refine lv_iload hx hb dL_law_86 (lv_at hl 3 rfl) ?_
    refine lv_iconst (v := zI 5) hx hb dL_law_88 (by decide +kernel) ?_
    refine lz_icmp_ge (tgt := 107) hx hb ⟨⟨by omega, by omega⟩, by decide⟩ dL_law_89 (by decide) (fun _ => ?_) (fun _ => J92)
    refine lv_iload hx hb dL_law_107 (lv_at hl 0 rfl) ?_
    refine lv_bipush (v := zI 18) hx hb dL_law_109 (by decide +kernel) ?_
    refine lz_icmp_ge (tgt := 129) hx hb ⟨⟨by omega, by omega⟩, by decide⟩ dL_law_111 (by decide) (fun _ => ?_) (fun _ => ?_)
    · obtain ⟨S', dv', ef, hlv'⟩ := yl_machine (p3 := ysr x 5) (p4 := z) hlv (by omega)
      refine lv_aload_n hx hb dL_law_129 rfl (lv_at hl 7 rfl) ?_
      refine lv_aload_n hx hb dL_law_130 rfl (lv_at hl 6 rfl) ?_
      refine lv_aload_n hx hb dL_law_131 rfl (lv_at hl 5 rfl) ?_
      refine lv_iload hx hb dL_law_132 (lv_at hl 2 rfl) ?_
      refine lv_iconst (v := zI 5) hx hb dL_law_134 (by decide +kernel) ?_
      refine lz_ysr hx hb dL_law_135 ?_
      refine lv_iload hx hb dL_law_136 (lv_at hl 1 rfl) ?_
      refine ycSi (As := [.ref q1, .ref q2, .ref qd, .int (zI (ysr x 5)), .int (zI z)]) (rest := []) hx hb hml hown hts hl.1 hK (hX.kept hG.2.2.2.2.1) hNc hG.1 (yG_fw hG) hG.2.2.2 (c_L_machine hst ef) zk_t4_92 zk_t4_93 zk_t1_0 zk_t4_94 hd_L_machine rfl ⟨rfl, rfl, Nat.le_of_ble_eq_true rfl, Nat.le_of_ble_eq_true rfl⟩ ⟨by show _ ≤ 600074; omega, by show _ ≤ 7301549; omega⟩ rfl (Nat.le_of_ble_eq_true rfl) dL_law_138 (fun r u H locs hp hW9 hz hk9 hS => ?_)
      have hG := yG_w hG hW9 hp.2 hz hS
      have hr9 := hp.1
      subst hr9
      exact J141 S' dv' _ _ H locs _ _ ls (yLv_up hlv' (by omega)) hG (by omega) (by omega) (lv_sub hl [3, 5, 6, 7, 8] rfl)
    · obtain ⟨S', dv', ef, hlv'⟩ := yl_files (p3 := ysr x 5) (p4 := z) hlv
      refine lv_aload_n hx hb dL_law_114 rfl (lv_at hl 7 rfl) ?_
      refine lv_aload_n hx hb dL_law_115 rfl (lv_at hl 6 rfl) ?_
      refine lv_aload_n hx hb dL_law_116 rfl (lv_at hl 5 rfl) ?_
      refine lv_iload hx hb dL_law_117 (lv_at hl 2 rfl) ?_
      refine lv_iconst (v := zI 5) hx hb dL_law_119 (by decide +kernel) ?_
      refine lz_ysr hx hb dL_law_120 ?_
      refine lv_iload hx hb dL_law_121 (lv_at hl 1 rfl) ?_
      refine ycSi (As := [.ref q1, .ref q2, .ref qd, .int (zI (ysr x 5)), .int (zI z)]) (rest := []) hx hb hml hown hts hl.1 hK (hX.kept hG.2.2.2.2.1) hNc hG.1 (yG_fw hG) hG.2.2.2 (c_L_files hst ef) zk_t4_89 zk_t4_90 zk_t1_0 zk_t4_91 hd_L_files rfl ⟨rfl, rfl, Nat.le_of_ble_eq_true rfl, Nat.le_of_ble_eq_true rfl⟩ ⟨by show _ ≤ 600074; omega, by show _ ≤ 7301549; omega⟩ rfl (Nat.le_of_ble_eq_true rfl) dL_law_123 (fun r u H locs hp hW9 hz hk9 hS => ?_)
      have hG := yG_w hG hW9 hp.2 hz hS
      have hr9 := hp.1
      subst hr9
      refine lv_goto (tgt := 141) hx hb dL_law_126 (by decide) ?_
      exact J141 S' dv' _ _ H locs _ _ ls (yLv_up hlv' (by omega)) hG (by omega) (by omega) (lv_sub hl [3, 5, 6, 7, 8] rfl)
