/-- one call of the script -/
def g_law (k : Int) (x : zS) (w : Nat → Int) : Option zS := if k = 0 then g_field x w else if k = 1 then g_corner x w else if k = 2 then g_sew x w else if k = 3 then g_scale x w else if k = 4 then g_bound x w else if k = 5 then g_commands x w else if k = 6 then g_ofCommand x w else if k = 7 then g_count x w else if k = 8 then g_time x w else if k = 9 then g_thread x w else if k = 10 then g_covered x w else if k = 11 then g_touched x w else if k = 12 then g_write x w else if k = 13 then g_byteAt x w else if k = 14 then g_damage x w else if k = 15 then g_shorten x w else if k = 16 then g_fault x w else if k = 17 then g_reads x w else if k = 18 then g_start x w else if k = 19 then g_run x w else if k = 20 then g_breaks x w else if k = 21 then g_mend x w else if k = 22 then g_sewn x w else some x
def zkey (w : Int) : Int := ((zI w) &&& (zI 31)).toInt
/-- the calls of a script, n of them from the place i on -/
def g_script (v : Nat → Int) : Nat → Nat → zS → Option zS
  | 0, _, x => some x
  | n + 1, i, x => match g_law (zkey (v i)) x (fun k => v (i + k)) with
    | none => none
    | some y => g_script v n (i + 7) y
set_option maxHeartbeats 4000000 in
set_option maxRecDepth 100000 in
theorem z_sw {p : Program} {l : Launch} {e : Env} {s : State} {m : MethodId} {args : Array Value} {below : List Frame} {meth : Method} {c : Code} {Q : State → Prop} {D : va_G} {cI cZ cF cL cD : ClassId} {b L : Nat} {xs : Nat → Int32} {A : Nat → Prop} (hx : p.tables.exec = Jvm.exec) (hb : c.code = code) (hml : c.maxLocals = 10) (hown : s.vm.findClass RL = some m.cls) (hts : ∀ w ∈ wsL_law, w.before args s = true) (hst : l.stackTraces = false) (hNc : zNc s) (hX0 : va_X b L xs s s.heap) (hbl : b < s.heap.size) (hbA : ¬ A b) (hA : ∀ q, s.heap.size ≤ q → A q) (hK : zK D (zT cI cZ cF cL cD) s) (hXs : zXs A s s.heap) (hL : L ≤ 3584)
    {ad : Nat → Nat} {N : Nat} {σ0 : Nat → va_E} {H : Heap} {locs : List Loc} {cells slots : Nat} (hH : zH D ad N A s.heap σ0 H locs) {x y : zS} (hW : zWF cI cZ cF cL cD ad N σ0 x) {ii : Int} (hiL : 0 ≤ ii ∧ ii + 7 ≤ L) {w : Nat → Int} (hw : ∀ k, k < 7 → xs (ii.toNat + k) = zI (w k) ∧ zR (w k)) (hcs : cells + 16 ≤ 83562 ∧ slots + 8500 ≤ 8845420) {ls : Array Slot} (hl : lv_has ls 10 (zLV b ad ii)) (hf : g_law (zkey (w 0)) x w = some y)
    (kk : ∀ (ad1 : Nat → Nat) (N1 : Nat) (σ1 : Nat → va_E) (H1 : Heap) (locs1 : List Loc) (cells1 slots1 : Nat), cells1 ≤ cells + 16 → slots1 ≤ slots + 8500 → zH D ad1 N1 A s.heap σ1 H1 locs1 → zWF cI cZ cF cL cD ad1 N1 σ1 y → ∀ ls : Array Slot, lv_has ls 10 (zLV b ad1 ii) → W p l e room_1 s m args below meth c H1 locs1 cells1 slots1 Q (F0 m 1430 ls [])) : W p l e room_1 s m args below meth c H locs cells slots Q (F0 m 45 ls [.int (zI (w 0) &&& zI 31)]) := by
  unfold g_law at hf
  have hk : (zI (w 0) &&& zI 31).toInt = zkey (w 0) := rfl
  generalize zkey (w 0) = k at hf hk
  by_cases q0 : k = 0
  · replace hf := (if_pos q0).symm.trans hf
    rw [q0] at hk
    exact lv_tableIn (tgt := 152) hx hb dL_law_45 (by rw [hk]; decide) (by rw [hk]; decide) (by rw [hk]; rfl) (by decide) (z_field hx hb hml hown hts hst hNc hX0 hbl hbA hA hK hXs hL hH hW hiL hw hcs hl hf kk)
  replace hf := (if_neg q0).symm.trans hf
  by_cases q1 : k = 1
  · replace hf := (if_pos q1).symm.trans hf
    rw [q1] at hk
    exact lv_tableIn (tgt := 248) hx hb dL_law_45 (by rw [hk]; decide) (by rw [hk]; decide) (by rw [hk]; rfl) (by decide) (z_corner hx hb hml hown hts hst hNc hX0 hbl hbA hA hK hXs hL hH hW hiL hw hcs hl hf kk)
  replace hf := (if_neg q1).symm.trans hf
  by_cases q2 : k = 2
  · replace hf := (if_pos q2).symm.trans hf
    rw [q2] at hk
    exact lv_tableIn (tgt := 328) hx hb dL_law_45 (by rw [hk]; decide) (by rw [hk]; decide) (by rw [hk]; rfl) (by decide) (z_sew hx hb hml hown hts hst hNc hX0 hbl hbA hA hK hXs hL hH hW hiL hw hcs hl hf kk)
  replace hf := (if_neg q2).symm.trans hf
  by_cases q3 : k = 3
  · replace hf := (if_pos q3).symm.trans hf
    rw [q3] at hk
    exact lv_tableIn (tgt := 442) hx hb dL_law_45 (by rw [hk]; decide) (by rw [hk]; decide) (by rw [hk]; rfl) (by decide) (z_scale hx hb hml hown hts hst hNc hX0 hbl hbA hA hK hXs hL hH hW hiL hw hcs hl hf kk)
  replace hf := (if_neg q3).symm.trans hf
  by_cases q4 : k = 4
  · replace hf := (if_pos q4).symm.trans hf
    rw [q4] at hk
    exact lv_tableIn (tgt := 490) hx hb dL_law_45 (by rw [hk]; decide) (by rw [hk]; decide) (by rw [hk]; rfl) (by decide) (z_bound hx hb hml hown hts hst hNc hX0 hbl hbA hA hK hXs hL hH hW hiL hw hcs hl hf kk)
  replace hf := (if_neg q4).symm.trans hf
  by_cases q5 : k = 5
  · replace hf := (if_pos q5).symm.trans hf
    rw [q5] at hk
    exact lv_tableIn (tgt := 546) hx hb dL_law_45 (by rw [hk]; decide) (by rw [hk]; decide) (by rw [hk]; rfl) (by decide) (z_commands hx hb hml hown hts hst hNc hX0 hbl hbA hA hK hXs hL hH hW hiL hw hcs hl hf kk)
  replace hf := (if_neg q5).symm.trans hf
  by_cases q6 : k = 6
  · replace hf := (if_pos q6).symm.trans hf
    rw [q6] at hk
    exact lv_tableIn (tgt := 559) hx hb dL_law_45 (by rw [hk]; decide) (by rw [hk]; decide) (by rw [hk]; rfl) (by decide) (z_ofCommand hx hb hml hown hts hst hNc hX0 hbl hbA hA hK hXs hL hH hW hiL hw hcs hl hf kk)
  replace hf := (if_neg q6).symm.trans hf
  by_cases q7 : k = 7
  · replace hf := (if_pos q7).symm.trans hf
    rw [q7] at hk
    exact lv_tableIn (tgt := 627) hx hb dL_law_45 (by rw [hk]; decide) (by rw [hk]; decide) (by rw [hk]; rfl) (by decide) (z_count hx hb hml hown hts hst hNc hX0 hbl hbA hA hK hXs hL hH hW hiL hw hcs hl hf kk)
  replace hf := (if_neg q7).symm.trans hf
  by_cases q8 : k = 8
  · replace hf := (if_pos q8).symm.trans hf
    rw [q8] at hk
    exact lv_tableIn (tgt := 683) hx hb dL_law_45 (by rw [hk]; decide) (by rw [hk]; decide) (by rw [hk]; rfl) (by decide) (z_time hx hb hml hown hts hst hNc hX0 hbl hbA hA hK hXs hL hH hW hiL hw hcs hl hf kk)
  replace hf := (if_neg q8).symm.trans hf
  by_cases q9 : k = 9
  · replace hf := (if_pos q9).symm.trans hf
    rw [q9] at hk
    exact lv_tableIn (tgt := 726) hx hb dL_law_45 (by rw [hk]; decide) (by rw [hk]; decide) (by rw [hk]; rfl) (by decide) (z_thread hx hb hml hown hts hst hNc hX0 hbl hbA hA hK hXs hL hH hW hiL hw hcs hl hf kk)
  replace hf := (if_neg q9).symm.trans hf
  by_cases q10 : k = 10
  · replace hf := (if_pos q10).symm.trans hf
    rw [q10] at hk
    exact lv_tableIn (tgt := 782) hx hb dL_law_45 (by rw [hk]; decide) (by rw [hk]; decide) (by rw [hk]; rfl) (by decide) (z_covered hx hb hml hown hts hst hNc hX0 hbl hbA hA hK hXs hL hH hW hiL hw hcs hl hf kk)
  replace hf := (if_neg q10).symm.trans hf
  by_cases q11 : k = 11
  · replace hf := (if_pos q11).symm.trans hf
    rw [q11] at hk
    exact lv_tableIn (tgt := 860) hx hb dL_law_45 (by rw [hk]; decide) (by rw [hk]; decide) (by rw [hk]; rfl) (by decide) (z_touched hx hb hml hown hts hst hNc hX0 hbl hbA hA hK hXs hL hH hW hiL hw hcs hl hf kk)
  replace hf := (if_neg q11).symm.trans hf
  by_cases q12 : k = 12
  · replace hf := (if_pos q12).symm.trans hf
    rw [q12] at hk
    exact lv_tableIn (tgt := 916) hx hb dL_law_45 (by rw [hk]; decide) (by rw [hk]; decide) (by rw [hk]; rfl) (by decide) (z_write hx hb hml hown hts hst hNc hX0 hbl hbA hA hK hXs hL hH hW hiL hw hcs hl hf kk)
  replace hf := (if_neg q12).symm.trans hf
  by_cases q13 : k = 13
  · replace hf := (if_pos q13).symm.trans hf
    rw [q13] at hk
    exact lv_tableIn (tgt := 972) hx hb dL_law_45 (by rw [hk]; decide) (by rw [hk]; decide) (by rw [hk]; rfl) (by decide) (z_byteAt hx hb hml hown hts hst hNc hX0 hbl hbA hA hK hXs hL hH hW hiL hw hcs hl hf kk)
  replace hf := (if_neg q13).symm.trans hf
  by_cases q14 : k = 14
  · replace hf := (if_pos q14).symm.trans hf
    rw [q14] at hk
    exact lv_tableIn (tgt := 1028) hx hb dL_law_45 (by rw [hk]; decide) (by rw [hk]; decide) (by rw [hk]; rfl) (by decide) (z_damage hx hb hml hown hts hst hNc hX0 hbl hbA hA hK hXs hL hH hW hiL hw hcs hl hf kk)
  replace hf := (if_neg q14).symm.trans hf
  by_cases q15 : k = 15
  · replace hf := (if_pos q15).symm.trans hf
    rw [q15] at hk
    exact lv_tableIn (tgt := 1096) hx hb dL_law_45 (by rw [hk]; decide) (by rw [hk]; decide) (by rw [hk]; rfl) (by decide) (z_shorten hx hb hml hown hts hst hNc hX0 hbl hbA hA hK hXs hL hH hW hiL hw hcs hl hf kk)
  replace hf := (if_neg q15).symm.trans hf
  by_cases q16 : k = 16
  · replace hf := (if_pos q16).symm.trans hf
    rw [q16] at hk
    exact lv_tableIn (tgt := 1152) hx hb dL_law_45 (by rw [hk]; decide) (by rw [hk]; decide) (by rw [hk]; rfl) (by decide) (z_fault hx hb hml hown hts hst hNc hX0 hbl hbA hA hK hXs hL hH hW hiL hw hcs hl hf kk)
  replace hf := (if_neg q16).symm.trans hf
  by_cases q17 : k = 17
  · replace hf := (if_pos q17).symm.trans hf
    rw [q17] at hk
    exact lv_tableIn (tgt := 1165) hx hb dL_law_45 (by rw [hk]; decide) (by rw [hk]; decide) (by rw [hk]; rfl) (by decide) (z_reads hx hb hml hown hts hst hNc hX0 hbl hbA hA hK hXs hL hH hW hiL hw hcs hl hf kk)
  replace hf := (if_neg q17).symm.trans hf
  by_cases q18 : k = 18
  · replace hf := (if_pos q18).symm.trans hf
    rw [q18] at hk
    exact lv_tableIn (tgt := 1178) hx hb dL_law_45 (by rw [hk]; decide) (by rw [hk]; decide) (by rw [hk]; rfl) (by decide) (z_start hx hb hml hown hts hst hNc hX0 hbl hbA hA hK hXs hL hH hW hiL hw hcs hl hf kk)
  replace hf := (if_neg q18).symm.trans hf
  by_cases q19 : k = 19
  · replace hf := (if_pos q19).symm.trans hf
    rw [q19] at hk
    exact lv_tableIn (tgt := 1226) hx hb dL_law_45 (by rw [hk]; decide) (by rw [hk]; decide) (by rw [hk]; rfl) (by decide) (z_run hx hb hml hown hts hst hNc hX0 hbl hbA hA hK hXs hL hH hW hiL hw hcs hl hf kk)
  replace hf := (if_neg q19).symm.trans hf
  by_cases q20 : k = 20
  · replace hf := (if_pos q20).symm.trans hf
    rw [q20] at hk
    exact lv_tableIn (tgt := 1282) hx hb dL_law_45 (by rw [hk]; decide) (by rw [hk]; decide) (by rw [hk]; rfl) (by decide) (z_breaks hx hb hml hown hts hst hNc hX0 hbl hbA hA hK hXs hL hH hW hiL hw hcs hl hf kk)
  replace hf := (if_neg q20).symm.trans hf
  by_cases q21 : k = 21
  · replace hf := (if_pos q21).symm.trans hf
    rw [q21] at hk
    exact lv_tableIn (tgt := 1318) hx hb dL_law_45 (by rw [hk]; decide) (by rw [hk]; decide) (by rw [hk]; rfl) (by decide) (z_mend hx hb hml hown hts hst hNc hX0 hbl hbA hA hK hXs hL hH hW hiL hw hcs hl hf kk)
  replace hf := (if_neg q21).symm.trans hf
  by_cases q22 : k = 22
  · replace hf := (if_pos q22).symm.trans hf
    rw [q22] at hk
    exact lv_tableIn (tgt := 1374) hx hb dL_law_45 (by rw [hk]; decide) (by rw [hk]; decide) (by rw [hk]; rfl) (by decide) (z_sewn hx hb hml hown hts hst hNc hX0 hbl hbA hA hK hXs hL hH hW hiL hw hcs hl hf kk)
  replace hf := (if_neg q22).symm.trans hf
  cases hf
  exact lv_tableOut (tgt := 1430) hx hb dL_law_45 (by rw [hk]; omega) (by decide) (kk _ _ _ _ _ _ _ (by omega) (by omega) hH hW _ hl)
set_option maxHeartbeats 4000000 in
set_option maxRecDepth 100000 in
theorem z_loop {p : Program} {l : Launch} {e : Env} {s : State} {m : MethodId} {args : Array Value} {below : List Frame} {meth : Method} {c : Code} {Q : State → Prop} {D : va_G} {cI cZ cF cL cD : ClassId} {b L : Nat} {xs : Nat → Int32} {A : Nat → Prop} (hx : p.tables.exec = Jvm.exec) (hb : c.code = code) (hml : c.maxLocals = 10) (hown : s.vm.findClass RL = some m.cls) (hts : ∀ w ∈ wsL_law, w.before args s = true) (hst : l.stackTraces = false) (hNc : zNc s) (hX0 : va_X b L xs s s.heap) (hbl : b < s.heap.size) (hbA : ¬ A b) (hA : ∀ q, s.heap.size ≤ q → A q) (hK : zK D (zT cI cZ cF cL cD) s) (hXs : zXs A s s.heap) (hL : L ≤ 3584)
    (kk : ∀ (ad1 : Nat → Nat) (N1 : Nat) (σ1 : Nat → va_E) (H1 : Heap) (locs1 : List Loc) (cells1 slots1 : Nat), cells1 ≤ 83562 → slots1 ≤ 8845420 → zH D ad1 N1 A s.heap σ1 H1 locs1 → ∀ ls : Array Slot, ls.size = 10 → W p l e room_1 s m args below meth c H1 locs1 cells1 slots1 Q (F0 m 1436 ls [])) :
    ∀ (n : Nat) (ad : Nat → Nat) (N : Nat) (σ0 : Nat → va_E) (H : Heap) (locs : List Loc) (cells slots : Nat) (x y : zS) (ii : Int) (ls : Array Slot), zH D ad N A s.heap σ0 H locs → zWF cI cZ cF cL cD ad N σ0 x → 0 ≤ ii → ii + 7 * (n : Int) ≤ L → (L : Int) < ii + 7 * (n : Int) + 7 → cells + 16 * n ≤ 83562 → slots + 8500 * n ≤ 8845420 → g_script (fun j => (xs j).toInt) n ii.toNat x = some y → lv_has ls 10 (zLV b ad ii) → W p l e room_1 s m args below meth c H locs cells slots Q (F0 m 28 ls []) := by
  intro n
  induction n with
  | zero =>
    intro ad N σ0 H locs cells slots x y ii ls hH hW h0 h1 h2 hc hs hf hl
    refine lv_iload hx hb dL_law_28 (lv_at hl 5 rfl) ?_
    refine lv_aload_n hx hb dL_law_30 rfl (lv_at hl 0 rfl) ?_
    refine va_slen hx hb hX0 hbl hbA hH.2.2 dL_law_31 ?_
    refine lv_bipush (v := zI 7) hx hb dL_law_32 (by decide +kernel) ?_
    rw [show Int32.ofNat L = zI (L : Int) from rfl]
    refine lz_isub hx hb dL_law_34 ?_
    refine lz_icmp_gt (tgt := 1436) hx hb ⟨⟨by omega, by omega⟩, ⟨by omega, by omega⟩⟩ dL_law_35 (by decide) (fun q => ?_) (fun q => ?_)
    · exact kk ad N σ0 H locs cells slots (by omega) (by omega) hH ls hl.1
    · exact absurd (show (L : Int) - 7 < ii by omega) q
  | succ n ih =>
    intro ad N σ0 H locs cells slots x y ii ls hH hW h0 h1 h2 hc hs hf hl
    have hiL : 0 ≤ ii ∧ ii + 7 ≤ L := ⟨h0, by omega⟩
    refine lv_iload hx hb dL_law_28 (lv_at hl 5 rfl) ?_
    refine lv_aload_n hx hb dL_law_30 rfl (lv_at hl 0 rfl) ?_
    refine va_slen hx hb hX0 hbl hbA hH.2.2 dL_law_31 ?_
    refine lv_bipush (v := zI 7) hx hb dL_law_32 (by decide +kernel) ?_
    rw [show Int32.ofNat L = zI (L : Int) from rfl]
    refine lz_isub hx hb dL_law_34 ?_
    refine lz_icmp_gt (tgt := 1436) hx hb ⟨⟨by omega, by omega⟩, ⟨by omega, by omega⟩⟩ dL_law_35 (by decide) (fun q => ?_) (fun q => ?_)
    · exact absurd q (by omega)
    have hw : ∀ k, k < 7 → xs (ii.toNat + k) = zI ((fun k => (xs (ii.toNat + k)).toInt) k) ∧ zR ((fun k => (xs (ii.toNat + k)).toInt) k) := fun k hk => ⟨(zI_of _).symm, zR_of _⟩
    refine lv_aload_n hx hb dL_law_38 rfl (lv_at hl 0 rfl) ?_
    refine lv_iload hx hb dL_law_39 (lv_at hl 5 rfl) ?_
    refine va_sld hx hb hX0 hbl hbA hH.2.2 (zI_in (n := L) ⟨h0, by omega⟩ (by omega)) dL_law_41 ?_
    rw [zI_cl (n := L) ⟨h0, by omega⟩ (by omega), show xs ii.toNat = zI (xs ii.toNat).toInt from (zI_of _).symm]
    refine lv_bipush (v := zI 31) hx hb dL_law_42 (by decide +kernel) ?_
    refine lv_iand hx hb dL_law_44 ?_
    have hf2 : (match g_law (zkey (xs ii.toNat).toInt) x (fun k => (xs (ii.toNat + k)).toInt) with
      | none => none
      | some y => g_script (fun j => (xs j).toInt) n (ii.toNat + 7) y) = some y := hf
    cases hg : g_law (zkey (xs ii.toNat).toInt) x (fun k => (xs (ii.toNat + k)).toInt) with
    | none => rw [hg] at hf2; cases hf2
    | some z =>
      rw [hg] at hf2
      refine z_sw hx hb hml hown hts hst hNc hX0 hbl hbA hA hK hXs hL (w := fun k => (xs (ii.toNat + k)).toInt) hH hW hiL hw ⟨by omega, by omega⟩ hl hg (fun ad1 N1 σ1 H1 l1 c1 s1 e1 e2 hH hW ls hl => ?_)
      refine lz_iinc hx hb dL_law_1430 hl (j := 5) rfl (by decide) rfl (fun ls hl => ?_)
      refine lv_goto (tgt := 28) hx hb dL_law_1433 (by decide) ?_
      refine ih ad1 N1 σ1 H1 l1 c1 s1 z y (ii + 7) ls hH hW (by omega) (by omega) (by omega) (by omega) (by omega) ?_ (lv_sub hl [1, 2, 3, 4, 5, 0] rfl)
      rw [show (ii + 7).toNat = ii.toNat + 7 by omega]
      exact hf2
