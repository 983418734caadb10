/-! ===== what the start gives ===== -/
theorem z_arrc {s : State} {args : Array Value} {ty : FieldType} (h : (Cond.arrayClass ty).before args s = true) : ∃ cA : ClassId, ArrOfT s cA ty ∧ s.vm.findClass ("[" ++ ty.toString) = some cA := by
  obtain ⟨cA, kA, comp, h1, h2, h3⟩ := Cond.arrayClass_spec h
  exact ⟨cA, fun n z => ⟨fun k h => (by cases h), kA, h2, comp, h3⟩, h1⟩
theorem z_dk {s : State} {args : Array Value} (hts : ∀ w ∈ wsL_law, w.before args s = true) : ∃ (dC : Nat → ClassId) (dI : Nat → Nat → Nat), ∀ (k : Nat) (q : vw_C), vwCl[k]? = some q → u_Kn s q.1 q.2.1 q.2.2 (dC k) (dI k) := by
  obtain ⟨c0, i0, h0⟩ := u_known (C := RX0) (T := TX0) (N := 15) (n := 15) hts inlX0 (hts _ zk_t1_204)
  obtain ⟨c1, i1, h1⟩ := u_known (C := RX1) (T := TX1) (N := 8) (n := 8) hts inlX1 (hts _ zk_t1_116)
  obtain ⟨c2, i2, h2⟩ := u_known (C := RX2) (T := TX2) (N := 5) (n := 5) hts inlX2 (hts _ zk_t1_89)
  obtain ⟨c3, i3, h3⟩ := u_known (C := RX3) (T := TX3) (N := 11) (n := 11) hts inlX3 (hts _ zk_t1_26)
  obtain ⟨c4, i4, h4⟩ := u_known (C := RX4) (T := TX4) (N := 3) (n := 3) hts inlX4 (hts _ zk_t3_67)
  obtain ⟨c5, i5, h5⟩ := u_known (C := RX5) (T := TX5) (N := 2) (n := 2) hts inlX5 (hts _ zk_t1_75)
  obtain ⟨c6, i6, h6⟩ := u_known (C := RX6) (T := TX6) (N := 9) (n := 9) hts inlX6 (hts _ zk_t1_16)
  refine ⟨fun k => if k = 0 then c0 else if k = 1 then c1 else if k = 2 then c2 else if k = 3 then c3 else if k = 4 then c4 else if k = 5 then c5 else c6, fun k => if k = 0 then i0 else if k = 1 then i1 else if k = 2 then i2 else if k = 3 then i3 else if k = 4 then i4 else if k = 5 then i5 else i6, ?_⟩
  intro k q hq
  match k, hq with
  | 0, hq => cases hq; exact h0
  | 1, hq => cases hq; exact h1
  | 2, hq => cases hq; exact h2
  | 3, hq => cases hq; exact h3
  | 4, hq => cases hq; exact h4
  | 5, hq => cases hq; exact h5
  | 6, hq => cases hq; exact h6
  | k + 7, hq => exact absurd hq (by simp [vwCl])
set_option maxRecDepth 100000 in
theorem z_mAO : Cond.arrayOver (.object RX0) ∈ lw_tbl := by decide +kernel
set_option maxRecDepth 100000 in
theorem z_mNest : ∀ q ∈ zNest, Cond.methodLinkNest q.1 q.2.1 q.2.2.1 q.2.2.2 ∈ lw_tbl := by decide +kernel
/-- the classes and the arrays' classes of the start -/
theorem z_env {s : State} {b : Nat} (hts0 : ∀ w ∈ lw_tbl, w.before #[Value.ref b] s = true) : ∃ (D : va_G) (cI cZ cF cL cD : ClassId), zK D (zT cI cZ cF cL cD) s ∧ va_AO RX0 s := by
  have hts : ∀ w ∈ wsL_law, w.before #[Value.ref b] s = true := fun w h => hts0 w (zk_tbl w h)
  obtain ⟨dC, dI, hD⟩ := z_dk hts
  obtain ⟨cI, aI, fI⟩ := z_arrc (hts _ zk_t1_73)
  obtain ⟨cZ, aZ, fZ⟩ := z_arrc (hts _ zk_t1_72)
  have hao : va_AO RX0 s := va_AO.of (hts0 _ z_mAO)
  obtain ⟨comp, cF, kF, g1, g2, g3, g4, g5⟩ := Cond.arrayOver_spec hao
  refine ⟨(dC, dI), cI, cZ, cF, cI, cI, ⟨⟨hD, fun k q hq => ?_⟩, fun q hq => va_Nw.of rfl (hts0 _ (z_mNest q hq))⟩, hao⟩
  match k, hq with
  | 0, hq => cases hq; exact ⟨aI, fI⟩
  | 1, hq => cases hq; exact ⟨aZ, fZ⟩
  | 2, hq => cases hq; exact ⟨fun N z => ⟨(fun k h => by cases h), kF, g3, comp, g4⟩, kF, comp, g3, g4, g1, g5⟩
  | k + 3, hq => exact absurd hq (by simp)
set_option maxRecDepth 100000 in
theorem z_mStr : ∀ q ∈ zStr, Cond.stringRef RX6 q.1 q.2 ∈ lw_tbl := by decide +kernel
set_option maxRecDepth 100000 in
theorem z_mBad : ∀ w ∈ zBad, w ∈ lw_tbl := by decide +kernel
set_option maxRecDepth 100000 in
/-- the exceptions' statics and texts at the start -/
theorem z_env3 {s : State} {b : Nat} (hts0 : ∀ w ∈ lw_tbl, w.before #[Value.ref b] s = true) (hgv : (Jvm.Cond.and given_1 narrow_1).before #[Value.ref b] s = true) : zXs (fun q => s.heap.size ≤ q) s s.heap ∧ zNc s := by
  have hs := flat_of_before _ hgv
  refine ⟨⟨vx_Zqof (hts0 _ (by decide +kernel)) (hts0 _ (by decide +kernel)) (hs _ (by decide +kernel)) (fun a h => Nat.not_le.mpr h), vx_Zqof (hts0 _ (by decide +kernel)) (hts0 _ (by decide +kernel)) (hs _ (by decide +kernel)) (fun a h => Nat.not_le.mpr h), fun q hq => ?_, fun w hw => va_Nw.of (zBad_w hw).1 (hts0 _ (z_mBad w hw))⟩, fun q hq => va_Nc.of (hs _ (by revert q; decide +kernel))⟩
  have h1 : (Cond.stringRef RX6 q.1 q.2).before #[Value.ref b] s = true := hts0 _ (z_mStr q hq)
  have h2 : (Cond.exactly (.string RX6 q.1) "java/lang/String").before #[Value.ref b] s = true := hs _ (by clear h1; revert q; decide +kernel)
  obtain ⟨a, c, cell, k, ha, -⟩ := Cond.exactly_spec h2
  exact ⟨a, vk_R.of h1 ha⟩
