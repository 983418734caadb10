set_option maxRecDepth 100000 in
theorem z_mStr : ∀ q ∈ zStr, Cond.stringRef RX6 q.1 q.2 ∈ lw_tbl := by decide +kernel
set_option maxRecDepth 100000 in
theorem z_mBad : ∀ w ∈ zBad, w ∈ lw_tbl := by decide +kernel
set_option maxRecDepth 100000 in
/-- the exceptions' statics and texts at the start -/
theorem z_env3 {s : State} {b : Nat} (hts0 : ∀ w ∈ lw_tbl, w.before #[Value.ref b] s = true) (hgv : (Jvm.Cond.and given_1 narrow_1).before #[Value.ref b] s = true) : zXs (fun q => s.heap.size ≤ q) s s.heap ∧ zNc s := by
  have hs := flat_of_before _ hgv
  refine ⟨⟨vx_Zqof (hts0 _ (by decide +kernel)) (hts0 _ (by decide +kernel)) (hs _ (by decide +kernel)) (fun a h => Nat.not_le.mpr h), vx_Zqof (hts0 _ (by decide +kernel)) (hts0 _ (by decide +kernel)) (hs _ (by decide +kernel)) (fun a h => Nat.not_le.mpr h), fun q hq => ?_, fun w hw => va_Nw.of (zBad_w hw).1 (hts0 _ (z_mBad w hw))⟩, fun q hq => va_Nc.of (hs _ (by revert q; decide +kernel))⟩
  have h1 : (Cond.stringRef RX6 q.1 q.2).before #[Value.ref b] s = true := hts0 _ (z_mStr q hq)
  have h2 : (Cond.exactly (.string RX6 q.1) "java/lang/String").before #[Value.ref b] s = true := hs _ (by clear h1; revert q; decide +kernel)
  obtain ⟨a, c, cell, k, ha, -⟩ := Cond.exactly_spec h2
  exact ⟨a, vk_R.of h1 ha⟩
