/-! ===== the model's plan, made or kept ===== -/
def mHas (n : Int) (la co : Int → Int) (P : Int → List (Int × Int)) (bd : Int) (k x y o : Int → Int) (nc : Int) : Prop := ∃ C, qPlan n la co P bd C ∧ C.length ≤ 16641 ∧ qCm k x y o nc C
theorem pR_reckons {n bd kn np cc rY nc nx ny : Int} {la co cl kc de le sh pu un mcol mla mic mco mcX mcY mde mlo msh mpu mhu sewn pX pY cr k x y o : Int → Int} {fx fy : Int → Int → Int} {P : Int → List (Int × Int)} (hLC : qLC n la co) (hF : qFds n cl kc fx fy de le sh pu un) (hP : P = qPF cl kc fx fy de le sh pu un) (hM : qMoA n la co cl kc fx fy de le sh pu un mcol mla mic mco mcX mcY mde mlo msh mpu mhu) (hb : 0 ≤ bd ∧ bd ≤ 100) (hkn : kn = 0 ∨ (kn = 1 ∧ mHas n la co P bd k x y o nc)) :
    ∃ pX' pY' np' cr' cc' nc' k' x' y' o' nx' ny' sewn' rY', f_X7_reckons n mcol mla mic mco mcX mcY mde mlo msh mpu mhu bd pX pY np cr cc kn nc k x y o nx ny sewn rY = some (pX', pY', np', cr', cc', 1, nc', k', x', y', o', nx', ny', sewn', rY') ∧ mHas n la co P bd k' x' y' o' nc' := by
  have hA : qAll n la co P := by rw [hP]; exact qAll_of hLC hF
  have hn := hA.1
  rcases hkn with q | ⟨q, hh⟩
  · subst q
    have H1 : ∃ q, zlp (fun z => f_X7_reckons_L30 n mcol mla mic mco mcX mcY mde mlo msh mpu mhu bd pX pY np cr cc 1 0 k x y o 0 0 rY z.1 z.2) zFU (0, sewn) = some q ∧ (∀ i, 0 ≤ i → i < n → q.2 i = 0) := by
      refine zlp_for (fun s : Int × (Int → Int) => s.1) (lo := 0) (hi := n) (fun j s => ∀ i, 0 ≤ i → i < j → s.2 i = 0) _ hn.1 (by omega) ?_ ?_ (0, sewn) rfl (fun i a b => by omega)
      · intro s h0 h1 hR
        obtain ⟨j, a⟩ := s
        replace h0 : 0 ≤ j := h0
        replace h1 : j < n := h1
        refine ⟨(j + 1, zup a j 0), ?_, rfl, ?_⟩
        · show f_X7_reckons_L30 n mcol mla mic mco mcX mcY mde mlo msh mpu mhu bd pX pY np cr cc 1 0 k x y o 0 0 rY j a = _
          unfold f_X7_reckons_L30
          simp (disch := omega) only [zck_t, if_neg, zlt]
        · intro i i0 i1
          show zup a j 0 i = 0
          by_cases q : i = j
          · rw [q, zup_s]
          · rw [zup_n q]
            exact hR i i0 (by show i < j; replace i1 : i < j + 1 := i1; omega)
      · intro s h0 hR
        obtain ⟨j, a⟩ := s
        replace h0 : j = n := h0
        refine ⟨(j, a), ?_, hR⟩
        show f_X7_reckons_L30 n mcol mla mic mco mcX mcY mde mlo msh mpu mhu bd pX pY np cr cc 1 0 k x y o 0 0 rY j a = _
        unfold f_X7_reckons_L30
        simp (disch := omega) only [zck_t, if_pos]
    obtain ⟨⟨j0, sw0⟩, es, hs0⟩ := H1
    replace hs0 : ∀ i, 0 ≤ i → i < n → sw0 i = 0 := hs0
    have H : ∃ q, zlp (fun z => f_X7_reckons_L55 n mcol mla mic mco mcX mcY mde mlo msh mpu mhu bd 1 z.1 z.2.1 z.2.2.1 z.2.2.2.1 z.2.2.2.2.1 z.2.2.2.2.2.1 z.2.2.2.2.2.2.1 z.2.2.2.2.2.2.2.1 z.2.2.2.2.2.2.2.2.1 z.2.2.2.2.2.2.2.2.2.1 z.2.2.2.2.2.2.2.2.2.2.1 z.2.2.2.2.2.2.2.2.2.2.2.1 z.2.2.2.2.2.2.2.2.2.2.2.2.1 z.2.2.2.2.2.2.2.2.2.2.2.2.2.1 z.2.2.2.2.2.2.2.2.2.2.2.2.2.2.1 z.2.2.2.2.2.2.2.2.2.2.2.2.2.2.2) zFU ((-1), 0, pX, pY, np, cr, cc, 0, k, x, y, o, 0, 0, sw0, rY) = some q ∧ (∃ t', qOK n la co P bd 4 q.1 q.2.2.2.2.2.2.2.1 q.2.2.2.2.2.2.2.2.1 q.2.2.2.2.2.2.2.2.2.1 q.2.2.2.2.2.2.2.2.2.2.1 q.2.2.2.2.2.2.2.2.2.2.2.1 q.2.2.2.2.2.2.2.2.2.2.2.2.1 q.2.2.2.2.2.2.2.2.2.2.2.2.2.1 q.2.2.2.2.2.2.2.2.2.2.2.2.2.2.1 t') := by
      refine zlp_for (fun q : Int × Int × (Int → Int) × (Int → Int) × Int × (Int → Int) × Int × Int × (Int → Int) × (Int → Int) × (Int → Int) × (Int → Int) × Int × Int × (Int → Int) × Int => q.2.1) (lo := 0) (hi := 4) (fun l q => ∃ t', qOK n la co P bd l q.1 q.2.2.2.2.2.2.2.1 q.2.2.2.2.2.2.2.2.1 q.2.2.2.2.2.2.2.2.2.1 q.2.2.2.2.2.2.2.2.2.2.1 q.2.2.2.2.2.2.2.2.2.2.2.1 q.2.2.2.2.2.2.2.2.2.2.2.2.1 q.2.2.2.2.2.2.2.2.2.2.2.2.2.1 q.2.2.2.2.2.2.2.2.2.2.2.2.2.2.1 t') _ (by omega) (by omega) ?_ ?_ ((-1), 0, pX, pY, np, cr, cc, 0, k, x, y, o, 0, 0, sw0, rY) rfl ?_
      · intro s h0 h1 hR
        obtain ⟨now, l, pX, pY, np, cr, cc, nc, k, x, y, o, nx, ny, sewn, rY⟩ := s
        replace h0 : 0 ≤ l := h0
        replace h1 : l < 4 := h1
        obtain ⟨t, hOK⟩ := hR
        replace hOK : qOK n la co P bd l now nc k x y o nx ny sewn t := hOK
        obtain ⟨⟨rm, hrun⟩, hall, e1, hcm, e2, e3, hsw, hW⟩ := id hOK
        have hI := (qRun_I hA rm qS0_I hrun).1
        obtain ⟨r, pX2, pY2, np2, cr2, cc2, rY2, en, hN2⟩ := pE_nearest (sewn := sewn) (pX := pX) (pY := pY) (np := np) (cr := cr) (cc := cc) (rY := rY) (p := t.2.2.1) (l := l) (c := -1) hA hF hP hM hsw hI.2.2.2.1 ⟨h0, h1⟩ (by omega)
        obtain ⟨now', i, pX', pY', np', cr', cc', nc', k', x', y', o', nx', ny', sewn', rY', ei, t', hOK'⟩ := pE_inner (kn := 1) (pX := pX2) (pY := pY2) (np := np2) (cr := cr2) (cc := cc2) (rY := rY2) hA hF hP hM ⟨h0, h1⟩ hb hOK hN2
        refine ⟨(now', l + 1, pX', pY', np', cr', cc', nc', k', x', y', o', nx', ny', sewn', rY'), ?_, rfl, t', hOK'⟩
        show f_X7_reckons_L55 n mcol mla mic mco mcX mcY mde mlo msh mpu mhu bd 1 now l pX pY np cr cc nc k x y o nx ny sewn rY = _
        rw [← e2, ← e3] at en
        unfold f_X7_reckons_L55
        simp (disch := omega) only [zck_t, if_neg, en, zb7_e]
        rw [ei]
        rfl
      · intro s h0 hR
        obtain ⟨now, l, pX, pY, np, cr, cc, nc, k, x, y, o, nx, ny, sewn, rY⟩ := s
        replace h0 : l = 4 := h0
        refine ⟨(now, l, pX, pY, np, cr, cc, nc, k, x, y, o, nx, ny, sewn, rY), ?_, hR⟩
        show f_X7_reckons_L55 n mcol mla mic mco mcX mcY mde mlo msh mpu mhu bd 1 now l pX pY np cr cc nc k x y o nx ny sewn rY = _
        unfold f_X7_reckons_L55
        simp (disch := omega) only [zck_t, if_pos]
      · refine ⟨qS0 n P, ⟨0, rfl⟩, ?_, rfl, qRow_nil _, rfl, rfl, ?_, ?_⟩
        · intro i hi
          have := ((qS0_I (n := n) (P := P)).2.1 i hi).1
          have := (hA.2 i this.1 this.2).1
          omega
        · intro i i0 i1
          exact Or.inl (hs0 i i0 i1)
        · intro i i0 i1
          show (if (0 ≤ i ∧ i < n) ∧ ¬ P i = [] then (1 : Int) else 0) = 1 ↔ (sw0 i = 0 ∧ ¬ P i = [])
          constructor
          · intro w
            split at w
            · rename_i g; exact ⟨hs0 i i0 i1, g.2⟩
            · omega
          · intro w
            rw [if_pos ⟨⟨i0, i1⟩, w.2⟩]
    obtain ⟨⟨now', i, pX', pY', np', cr', cc', nc', k', x', y', o', nx', ny', sewn', rY'⟩, e, t, hOK⟩ := H
    replace hOK : qOK n la co P bd 4 now' nc' k' x' y' o' nx' ny' sewn' t := hOK
    obtain ⟨⟨rm, hrun⟩, hall, e1, hcm, e2, e3, hsw, hW⟩ := hOK
    have hI := (qRun_I hA rm qS0_I hrun).1
    have hnone : ∀ i, ¬ t.1 i = 1 := by
      intro i hi
      have h1 := (hI.2.1 i hi).1
      have h2 := hall i hi
      have h3 := (hA.2 i h1.1 h1.2).1
      omega
    have hlen : t.2.1.length ≤ 16640 := by
      have h3 := hI.2.2.1
      have h01 := hI.1
      have x0 := h01 0
      have x1 := h01 1
      have x2 := h01 2
      have x3 := h01 3
      have x4 := h01 4
      have x5 := h01 5
      have x6 := h01 6
      have x7 := h01 7
      have : 0 ≤ qCW t.1 := by
        unfold qCW
        omega
      omega
    have hnl := hcm.1
    obtain ⟨k2, x2, y2, o2, ec, hcm2⟩ := pE_command (nx := nx') (ny := ny') (p1 := 4) (p2 := 0) (p3 := 0) (p4 := -1) hcm (by omega)
    refine ⟨pX', pY', np', cr', cc', nc' + 1, k2, x2, y2, o2, nx' + 0, ny' + 0, sewn', rY', ?_, t.2.1 ++ [(4, 0, 0, -1)], ⟨rm, t, hrun, hnone, rfl⟩, by rw [List.length_append, List.length_singleton]; omega, hcm2⟩
    unfold f_X7_reckons
    rw [es]
    simp (disch := omega) only [zck_t, if_true, zb2_e]
    rw [e]
    simp only [zb16_e]
    rw [ec]
    rfl
  · subst q
    refine ⟨pX, pY, np, cr, cc, nc, k, x, y, o, nx, ny, sewn, rY, ?_, hh⟩
    unfold f_X7_reckons
    simp (disch := omega) only [zck_t, if_neg]
