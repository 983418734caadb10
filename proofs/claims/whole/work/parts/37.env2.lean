set_option maxRecDepth 100000 in
theorem z_mAO : Cond.arrayOver (.object RX0) ∈ lw_tbl := by decide +kernel
set_option maxRecDepth 100000 in
theorem z_mNest : ∀ q ∈ zNest, Cond.methodLinkNest q.1 q.2.1 q.2.2.1 q.2.2.2 ∈ lw_tbl := by decide +kernel
/-- the classes and the arrays' classes of the start -/
theorem z_env {s : State} {b : Nat} (hts0 : ∀ w ∈ lw_tbl, w.before #[Value.ref b] s = true) : ∃ (D : va_G) (cI cZ cF cL cD : ClassId), zK D (zT cI cZ cF cL cD) s ∧ va_AO RX0 s := by
  have hts : ∀ w ∈ wsL_law, w.before #[Value.ref b] s = true := fun w h => hts0 w (zk_tbl w h)
  obtain ⟨dC, dI, hD⟩ := z_dk hts
  obtain ⟨cI, aI, fI⟩ := z_arrc (hts _ zk_t1_74)
  obtain ⟨cZ, aZ, fZ⟩ := z_arrc (hts _ zk_t1_73)
  obtain ⟨cL, aL, fL⟩ := z_arrc (hts _ zk_t5_229)
  obtain ⟨cD, aD, fD⟩ := z_arrc (hts _ zk_t5_230)
  have hao : va_AO RX0 s := va_AO.of (hts0 _ z_mAO)
  obtain ⟨comp, cF, kF, g1, g2, g3, g4, g5⟩ := Cond.arrayOver_spec hao
  refine ⟨(dC, dI), cI, cZ, cF, cL, cD, ⟨⟨hD, fun k q hq => ?_⟩, fun q hq => va_Nw.of rfl (hts0 _ (z_mNest q hq))⟩, hao⟩
  match k, hq with
  | 0, hq => cases hq; exact ⟨aI, fI⟩
  | 1, hq => cases hq; exact ⟨aZ, fZ⟩
  | 2, hq => cases hq; exact ⟨fun N z => ⟨(fun k h => by cases h), kF, g3, comp, g4⟩, kF, comp, g3, g4, g1, g5⟩
  | 3, hq => cases hq; exact ⟨aL, fL⟩
  | 4, hq => cases hq; exact ⟨aD, fD⟩
  | k + 5, hq => exact absurd hq (by simp)
theorem z_empty {D : va_G} {ad : Nat → Nat} {σ : Nat → va_E} {A : Nat → Prop} {H0 : Heap} : zH D ad 0 A H0 σ H0 [] := by
  have z : ∀ (k : Nat) (q : Nat × va_E), ¬ (zl ad 0 σ)[k]? = some q := fun k q h => by
    rw [zl_none (by omega)] at h
    cases h
  exact ⟨fun k q h => absurd h (z k q), ⟨fun i j p q h => absurd h (z i p), fun k q h => absurd h (z k q)⟩, va_S.rf⟩
