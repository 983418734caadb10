/-! ===== touched and covered ===== -/
theorem qCells_ct {a b : Int → Int} {S : List Int} (h1 : qCells a S) (h2 : qCells b S) : qCt a 1024 = qCt b 1024 := qCt_congr 1024 (fun v h0 h1' => (h1 v h0 h1').trans (h2 v h0 h1').symm)
theorem qCells_b {a : Int → Int} {S : List Int} (h : qCells a S) : 0 ≤ qCt a 1024 ∧ qCt a 1024 ≤ 1024 ∧ (qCt a 1024 = 0 → ∀ v, 0 ≤ v → v < 1024 → a v = 0) := qCt_b 1024 (fun v h0 h1 => by rw [h v h0 h1]; exact qInd_01)
theorem pE_mtouches {bd np mcc kn nc mnx mny rY n : Int} {P : Int → List (Int × Int)} {la co cl cc de le sh pu un mcol mla mic mco mcX mcY mde mlo msh mpu mhu sewn pX pY mcr mk mx my mo T : Int → Int} {fx fy : Int → Int → Int} {f : Int} (hS : qSt n bd la co cl cc fx fy de le sh pu un mcol mla mic mco mcX mcY mde mlo msh mpu mhu) (hP : P = qPF cl cc fx fy de le sh pu un) (hM : qMl n la co P bd kn mk mx my mo nc) (hf : 0 ≤ f ∧ f < n) :
    ∃ (pX' pY' : Int → Int) (np' : Int) (mcr' : Int → Int) (mcc' nc' : Int) (mk' mx' my' mo' : Int → Int) (mnx' mny' : Int) (sewn' T' : Int → Int) (rY' : Int), f_X7_touches n mcol mla mic mco mcX mcY mde mlo msh mpu mhu bd pX pY np mcr mcc kn nc mk mx my mo mnx mny sewn T rY f = some (qCt T' 1024, pX', pY', np', mcr', mcc', 1, nc', mk', mx', my', mo', mnx', mny', sewn', T', rY') ∧ qCells T' (qToL (P f)) ∧ qMl n la co P bd 1 mk' mx' my' mo' nc' := by
  obtain ⟨h1, h2, h3, h4⟩ := id hS
  have hA : qAll n la co P := by rw [hP]; exact qAll_of h1 h2
  obtain ⟨pX', pY', np', mcr', mcc', nc', mk', mx', my', mo', mnx', mny', sewn', rY', e2, hh2⟩ := pR_reckons (pX := pX) (pY := pY) (np := np) (cr := mcr) (cc := mcc) (rY := rY) (nx := mnx) (ny := mny) (sewn := sewn) h1 h2 hP h3 h4 hM
  obtain ⟨C, g1, g2, g3⟩ := id hh2
  obtain ⟨j1, T1, t1, c1⟩ := pE_mclear (n := n) (bd := bd) (np := np') (mcc := mcc') (kn := 1) (nc := nc') (mnx := mnx') (mny := mny') (rY := rY') (f := f) (mcol := mcol) (mla := mla) (mic := mic) (mco := mco) (mcX := mcX) (mcY := mcY) (mde := mde) (mlo := mlo) (msh := msh) (mpu := mpu) (mhu := mhu) (sewn := sewn') (pX := pX') (pY := pY') (mcr := mcr') (mk := mk') (mx := mx') (my := my') (mo := mo') (C := C) (T := T)
  obtain ⟨ex, ey, j2, T2, t2, c2⟩ := pE_mtouch (n := n) (bd := bd) (np := np') (mcc := mcc') (kn := 1) (mnx := mnx') (mny := mny') (rY := rY') (f := f) (mcol := mcol) (mla := mla) (mic := mic) (mco := mco) (mcX := mcX) (mcY := mcY) (mde := mde) (mlo := mlo) (msh := msh) (mpu := mpu) (mhu := mhu) (sewn := sewn') (pX := pX') (pY := pY') (mcr := mcr') (nn := 0) h1.1 hf g3 g2 (qPlan_wf hA g1) c1
  rw [qPlan_tm hA g1 hf.1 hf.2] at c2
  obtain ⟨j3, t3⟩ := pE_mcount (n := n) (bd := bd) (np := np') (mcc := mcc') (kn := 1) (nc := nc') (mnx := mnx') (mny := mny') (rY := rY') (mcol := mcol) (mla := mla) (mic := mic) (mco := mco) (mcX := mcX) (mcY := mcY) (mde := mde) (mlo := mlo) (msh := msh) (mpu := mpu) (mhu := mhu) (sewn := sewn') (pX := pX') (pY := pY') (mcr := mcr') (mk := mk') (mx := mx') (my := my') (mo := mo') (C := C) (f := f) c2
  refine ⟨pX', pY', np', mcr', mcc', nc', mk', mx', my', mo', mnx', mny', sewn', T2, rY', ?_, c2, Or.inr ⟨rfl, hh2⟩⟩
  unfold f_X7_touches
  rw [e2]
  simp only [zb15_e]
  rw [t1]
  simp only [zb2_e]
  rw [t2]
  simp only [zb4_e]
  rw [t3]
  simp only [zb2_e]
theorem pL_touched {bd pl m np mcc kn nc mnx mny thr rY n rc w1 : Int} {sec : UInt32} {P : Int → List (Int × Int)} {la co cl cc de le sh pu un dr sz cn k x y o kc th mcol mla mic mco mcX mcY mde mlo msh mpu mhu sewn pX pY mcr mk mx my mo T ra : Int → Int} {fx fy cr xs ys : Int → Int → Int} {out : Int} (hS : qSt n bd la co cl cc fx fy de le sh pu un mcol mla mic mco mcX mcY mde mlo msh mpu mhu) (hP : P = qPF cl cc fx fy de le sh pu un) (hC : qCl n la co P bd pl dr xs ys sz k x y o kc th m sec) (hM : qMl n la co P bd kn mk mx my mo nc) (hw : zR w1) :
    ∃ (cr' : Int → Int → Int) (cn' dr' : Int → Int) (xs' ys' : Int → Int → Int) (sz' ra' : Int → Int) (rc' : Int) (pX' pY' : Int → Int) (np' : Int) (mcr' : Int → Int) (mcc' kn' nc' : Int) (mk' mx' my' mo' : Int → Int) (mnx' mny' : Int) (sewn' T' : Int → Int) (thr' rY' : Int) (out' : Int), f_law_touched n cl fx fy cr cc cn de le sh pu un dr xs ys sz ra rc n mcol mla mic mco mcX mcY mde mlo msh mpu mhu bd pX pY np mcr mcc kn nc mk mx my mo mnx mny sewn T thr rY out n w1 = some (cr', cn', dr', xs', ys', sz', ra', rc', pX', pY', np', mcr', mcc', kn', nc', mk', mx', my', mo', mnx', mny', sewn', T', thr', rY', out') ∧ qCl n la co P bd pl dr' xs' ys' sz' k x y o kc th m sec ∧ qMl n la co P bd kn' mk' mx' my' mo' nc' := by
  obtain ⟨h1, h2, h3, h4⟩ := id hS
  have hn := h1.1
  unfold f_law_touched f_L_touched f_X6_touched f_X7_touched f_X7_thrown
  rw [pE_isField hn hw, pE_numbered hn hw]
  by_cases c : 0 ≤ w1 ∧ w1 ≤ n - 1
  · obtain ⟨cr1, cn1, xs1, ys1, n1, ed, hq, hD⟩ := pE_draw1 (cr := cr) (cn := cn) h2 hP hC.1 (i := w1) (by omega) (by omega)
    have hPb := qPts_b (h2 w1 (by omega) (by omega))
    have hPx := qPts_box (h2 w1 (by omega) (by omega))
    have hPe : P w1 = qPts (cl w1) (cc w1) (fx w1) (fy w1) (de w1) (le w1) (sh w1) (pu w1) (un w1) := by rw [hP]; rfl
    rw [← hPe] at hPb hPx
    obtain ⟨ra', rc', ew, hcl, hct⟩ := pE_walk (a := ra) (n := rc) hq hPb.1 hPx
    obtain ⟨pX', pY', np', mcr', mcc', nc', mk', mx', my', mo', mnx', mny', sewn', T', rY', et, hct2, hM'⟩ := pE_mtouches (pX := pX) (pY := pY) (np := np) (mcr := mcr) (mcc := mcc) (rY := rY) (mnx := mnx) (mny := mny) (sewn := sewn) (T := T) hS hP hM (f := w1) (by omega)
    have heq := qCells_ct hct2 hcl
    have hb := qCells_b hcl
    refine ⟨zup cr w1 cr1, zup cn w1 cn1, zup dr w1 1, zup xs w1 xs1, zup ys w1 ys1, zup sz w1 n1, ra', rc', pX', pY', np', mcr', mcc', 1, nc', mk', mx', my', mo', mnx', mny', sewn', T', 0, rY', rc', ?_, ⟨hD, hC.2⟩, hM'⟩
    simp (disch := omega) only [zb1_e, zb2_e, zck_t, if_pos, if_neg, if_true, if_false, not_true_eq_false, pE_asks1, ed, zb6_e, zlt, zup_s, ew, et, zb17_e, zb10_e, zb18_e]
  · refine ⟨cr, cn, dr, xs, ys, sz, ra, rc, pX, pY, np, mcr, mcc, kn, nc, mk, mx, my, mo, mnx, mny, sewn, T, 1, rY, out, ?_, hC, hM⟩
    simp (disch := omega) only [zb1_e, zb2_e, zck_t, if_pos, if_neg, if_true, if_false, not_true_eq_false, not_false_eq_true, pE_asks0, zb10_e, zb18_e]
