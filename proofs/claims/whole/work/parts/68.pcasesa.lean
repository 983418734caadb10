/-! ===== the cases that ask of commands ===== -/
theorem pL_commands {bd pl m nx ny now np mcc kn nc mnx mny thr rY n out w1 w2 : Int} {sec : UInt32} {P : Int → List (Int × Int)} {w la co cl cc de le sh pu un dr sz cn k x y o kc th mcol mla mic mco mcX mcY mde mlo msh mpu mhu sewn pX pY mcr mk mx my mo : Int → Int} {fx fy cr xs ys : Int → Int → Int} (hS : qSt n bd la co cl cc fx fy de le sh pu un mcol mla mic mco mcX mcY mde mlo msh mpu mhu) (hP : P = qPF cl cc fx fy de le sh pu un) (hC : qCl n la co P bd pl dr xs ys sz k x y o kc th m sec) (hM : qMl n la co P bd kn mk mx my mo nc) :
    ∃ (w' : Int → Int) (pl' : Int) (cr' : Int → Int → Int) (cn' dr' : Int → Int) (xs' ys' : Int → Int → Int) (sz' k' x' y' o' kc' th' : Int → Int) (m' : Int) (sec' : UInt32) (nx' ny' now' : Int) (pX' pY' : Int → Int) (np' : Int) (mcr' : Int → Int) (mcc' kn' nc' : Int) (mk' mx' my' mo' : Int → Int) (mnx' mny' : Int) (sewn' : Int → Int) (thr' rY' : Int), f_law_commands w bd pl co la cl fx fy cr cc cn de le sh pu un dr xs ys sz k x y o kc th m sec nx ny now n mcol mla mic mco mcX mcY mde mlo msh mpu mhu bd pX pY np mcr mcc kn nc mk mx my mo mnx mny sewn thr rY n = some (w', pl', cr', cn', dr', xs', ys', sz', k', x', y', o', kc', th', m', sec', nx', ny', now', pX', pY', np', mcr', mcc', kn', nc', mk', mx', my', mo', mnx', mny', sewn', thr', rY') ∧ qCl n la co P bd pl' dr' xs' ys' sz' k' x' y' o' kc' th' m' sec' ∧ qMl n la co P bd kn' mk' mx' my' mo' nc' := by
  obtain ⟨C, w', cr', cn', dr', xs', ys', sz', k', x', y', o', kc', th', m', sec', nx', ny', now', pX', pY', np', mcr', mcc', nc', mk', mx', my', mo', mnx', mny', sewn', rY', e1, e2, ⟨b1, b2, b3, b4⟩, hpr, hcm, hC', hM'⟩ := pR_both (w := w) (cn := cn) (cr := cr) (nx := nx) (ny := ny) (now := now) (pX := pX) (pY := pY) (np := np) (mcr := mcr) (mcc := mcc) (rY := rY) (mnx := mnx) (mny := mny) (sewn := sewn) hS hP hC hM
  have h1 := hpr.1.1
  have h2 := hcm.1
  refine ⟨w', 1, cr', cn', dr', xs', ys', sz', k', x', y', o', kc', th', m', sec', nx', ny', now', pX', pY', np', mcr', mcc', 1, nc', mk', mx', my', mo', mnx', mny', sewn', 0, rY', ?_, hC', hM'⟩
  unfold f_law_commands f_X6_commands f_X7_commands
  rw [e1, e2]
  simp (disch := omega) only [zb19_e, zb15_e, zb20_e, zb17_e, zck_t, if_pos]
theorem pL_ofCommand {bd pl m nx ny now np mcc kn nc mnx mny thr rY n out w1 w2 : Int} {sec : UInt32} {P : Int → List (Int × Int)} {w la co cl cc de le sh pu un dr sz cn k x y o kc th mcol mla mic mco mcX mcY mde mlo msh mpu mhu sewn pX pY mcr mk mx my mo : Int → Int} {fx fy cr xs ys : Int → Int → Int} (hS : qSt n bd la co cl cc fx fy de le sh pu un mcol mla mic mco mcX mcY mde mlo msh mpu mhu) (hP : P = qPF cl cc fx fy de le sh pu un) (hC : qCl n la co P bd pl dr xs ys sz k x y o kc th m sec) (hM : qMl n la co P bd kn mk mx my mo nc) (hw : zR w1 ∧ zR w2) (hn : 0 ≤ n ∧ n ≤ 8) :
    ∃ (w' : Int → Int) (pl' : Int) (cr' : Int → Int → Int) (cn' dr' : Int → Int) (xs' ys' : Int → Int → Int) (sz' k' x' y' o' kc' th' : Int → Int) (m' : Int) (sec' : UInt32) (nx' ny' now' : Int) (pX' pY' : Int → Int) (np' : Int) (mcr' : Int → Int) (mcc' kn' nc' : Int) (mk' mx' my' mo' : Int → Int) (mnx' mny' : Int) (sewn' : Int → Int) (thr' rY' : Int) (out' : Int), f_law_ofCommand w bd pl co la cl fx fy cr cc cn de le sh pu un dr xs ys sz k x y o kc th m sec nx ny now n mcol mla mic mco mcX mcY mde mlo msh mpu mhu bd pX pY np mcr mcc kn nc mk mx my mo mnx mny sewn thr rY out n w1 w2 = some (w', pl', cr', cn', dr', xs', ys', sz', k', x', y', o', kc', th', m', sec', nx', ny', now', pX', pY', np', mcr', mcc', kn', nc', mk', mx', my', mo', mnx', mny', sewn', thr', rY', out') ∧ qCl n la co P bd pl' dr' xs' ys' sz' k' x' y' o' kc' th' m' sec' ∧ qMl n la co P bd kn' mk' mx' my' mo' nc' := by
  obtain ⟨C, w', cr', cn', dr', xs', ys', sz', k', x', y', o', kc', th', m', sec', nx', ny', now', pX', pY', np', mcr', mcc', nc', mk', mx', my', mo', mnx', mny', sewn', rY', e1, e2, ⟨b1, b2, b3, b4⟩, hpr, hcm, hC', hM'⟩ := pR_both (w := w) (cn := cn) (cr := cr) (nx := nx) (ny := ny) (now := now) (pX := pX) (pY := pY) (np := np) (mcr := mcr) (mcc := mcc) (rY := rY) (mnx := mnx) (mny := mny) (sewn := sewn) hS hP hC hM
  have h1 := hpr.1.1
  have h2 := hcm.1
  have hmm : nc' = m' := by omega
  subst hmm
  have hsame := (qRow_same hpr.1 hcm).2
  unfold f_law_ofCommand f_L_ofCommand f_X6_ofCommand f_X7_ofCommand f_X7_thrown f_X7_fails
  rw [e1, e2]
  simp only [zb19_e, zb15_e]
  rw [pE_in (by omega), pE_within (by omega), pE_within (by omega)]
  by_cases c1 : 0 ≤ w1 ∧ w1 ≤ nc' - 1
  · have hs := hsame w1 (by omega) (by omega)
    have hs1 : k' w1 = mk' w1 := congrArg Prod.fst hs
    have hs2 : x' w1 = mx' w1 := congrArg (fun q : qC => q.2.1) hs
    have hs3 : y' w1 = my' w1 := congrArg (fun q : qC => q.2.2.1) hs
    have hs4 : o' w1 = mo' w1 := congrArg (fun q : qC => q.2.2.2) hs
    have hwf := b3 _ (qRow_mem hcm (i := w1) (by omega) (by omega))
    obtain ⟨f1, f2, f3, f4, f5, f6⟩ := hwf
    replace f1 : 0 ≤ mk' w1 ∧ mk' w1 ≤ 4 := f1
    replace f2 : -37 ≤ mx' w1 ∧ mx' w1 ≤ 37 := f2
    replace f3 : -37 ≤ my' w1 ∧ my' w1 ≤ 37 := f3
    replace f5 : mk' w1 ≤ 1 → (0 ≤ mo' w1 ∧ mo' w1 < n) ∧ _ := f5
    replace f6 : 2 ≤ mk' w1 → _ ∧ _ ∧ mo' w1 = -1 := f6
    have hmo : -1 ≤ mo' w1 ∧ mo' w1 < 8 := by
      rcases Int.lt_or_le 1 (mk' w1) with z | z
      · have := (f6 (by omega)).2.2
        omega
      · have := (f5 z).1
        omega
    by_cases c2 : 0 ≤ w2 ∧ w2 ≤ 3
    · by_cases a0 : w2 = 0
      · subst a0
        refine ⟨w', 1, cr', cn', dr', xs', ys', sz', k', x', y', o', kc', th', nc', sec', nx', ny', now', pX', pY', np', mcr', mcc', 1, nc', mk', mx', my', mo', mnx', mny', sewn', 0, rY', mk' w1, ?_, hC', hM'⟩
        rw [pE_told (by omega) (by omega)]
        simp (disch := omega) only [zb1_e, zb2_e, zb17_e, zb21_e, zck_t, if_pos, if_neg, if_true, if_false, not_true_eq_false, pE_asks1, hs1, hs2, hs3, hs4]
      · by_cases a1 : w2 = 1
        · subst a1
          refine ⟨w', 1, cr', cn', dr', xs', ys', sz', k', x', y', o', kc', th', nc', sec', nx', ny', now', pX', pY', np', mcr', mcc', 1, nc', mk', mx', my', mo', mnx', mny', sewn', 0, rY', mx' w1, ?_, hC', hM'⟩
          rw [pE_told (by omega) (by omega)]
          simp (disch := omega) only [zb1_e, zb2_e, zb17_e, zb21_e, zck_t, if_pos, if_neg, if_true, if_false, not_true_eq_false, pE_asks1, hs1, hs2, hs3, hs4]
        · by_cases a2 : w2 = 2
          · subst a2
            refine ⟨w', 1, cr', cn', dr', xs', ys', sz', k', x', y', o', kc', th', nc', sec', nx', ny', now', pX', pY', np', mcr', mcc', 1, nc', mk', mx', my', mo', mnx', mny', sewn', 0, rY', my' w1, ?_, hC', hM'⟩
            rw [pE_told (by omega) (by omega)]
            simp (disch := omega) only [zb1_e, zb2_e, zb17_e, zb21_e, zck_t, if_pos, if_neg, if_true, if_false, not_true_eq_false, pE_asks1, hs1, hs2, hs3, hs4]
          · refine ⟨w', 1, cr', cn', dr', xs', ys', sz', k', x', y', o', kc', th', nc', sec', nx', ny', now', pX', pY', np', mcr', mcc', 1, nc', mk', mx', my', mo', mnx', mny', sewn', 0, rY', mo' w1, ?_, hC', hM'⟩
            rw [pE_told (by omega) (by omega)]
            simp (disch := omega) only [zb1_e, zb2_e, zb17_e, zb21_e, zck_t, if_pos, if_neg, if_true, if_false, not_true_eq_false, pE_asks1, hs1, hs2, hs3, hs4]
    · refine ⟨w', 1, cr', cn', dr', xs', ys', sz', k', x', y', o', kc', th', nc', sec', nx', ny', now', pX', pY', np', mcr', mcc', 1, nc', mk', mx', my', mo', mnx', mny', sewn', 2, rY', out, ?_, hC', hM'⟩
      simp (disch := omega) only [zb1_e, zb2_e, zb17_e, zb21_e, zck_t, if_pos, if_neg, if_true, if_false, not_true_eq_false, not_false_eq_true, pE_asks1]
  · refine ⟨w', 1, cr', cn', dr', xs', ys', sz', k', x', y', o', kc', th', nc', sec', nx', ny', now', pX', pY', np', mcr', mcc', 1, nc', mk', mx', my', mo', mnx', mny', sewn', 1, rY', out, ?_, hC', hM'⟩
    simp (disch := omega) only [zb1_e, zb2_e, zb17_e, zb21_e, zck_t, if_pos, if_neg, if_true, if_false, not_true_eq_false, not_false_eq_true, pE_asks0]
theorem pL_count {bd pl m nx ny now np mcc kn nc mnx mny thr rY n out w1 w2 : Int} {sec : UInt32} {P : Int → List (Int × Int)} {w la co cl cc de le sh pu un dr sz cn k x y o kc th mcol mla mic mco mcX mcY mde mlo msh mpu mhu sewn pX pY mcr mk mx my mo : Int → Int} {fx fy cr xs ys : Int → Int → Int} (hS : qSt n bd la co cl cc fx fy de le sh pu un mcol mla mic mco mcX mcY mde mlo msh mpu mhu) (hP : P = qPF cl cc fx fy de le sh pu un) (hC : qCl n la co P bd pl dr xs ys sz k x y o kc th m sec) (hM : qMl n la co P bd kn mk mx my mo nc) (hw : zR w1) :
    ∃ (w' : Int → Int) (pl' : Int) (cr' : Int → Int → Int) (cn' dr' : Int → Int) (xs' ys' : Int → Int → Int) (sz' k' x' y' o' kc' th' : Int → Int) (m' : Int) (sec' : UInt32) (nx' ny' now' : Int) (pX' pY' : Int → Int) (np' : Int) (mcr' : Int → Int) (mcc' kn' nc' : Int) (mk' mx' my' mo' : Int → Int) (mnx' mny' : Int) (sewn' : Int → Int) (thr' rY' : Int) (out' : Int), f_law_count w bd pl co la cl fx fy cr cc cn de le sh pu un dr xs ys sz k x y o kc th m sec nx ny now n mcol mla mic mco mcX mcY mde mlo msh mpu mhu bd pX pY np mcr mcc kn nc mk mx my mo mnx mny sewn thr rY out n w1 = some (w', pl', cr', cn', dr', xs', ys', sz', k', x', y', o', kc', th', m', sec', nx', ny', now', pX', pY', np', mcr', mcc', kn', nc', mk', mx', my', mo', mnx', mny', sewn', thr', rY', out') ∧ qCl n la co P bd pl' dr' xs' ys' sz' k' x' y' o' kc' th' m' sec' ∧ qMl n la co P bd kn' mk' mx' my' mo' nc' := by
  unfold f_law_count f_L_count f_X6_count f_X7_count f_X7_thrown
  rw [pE_in (by omega), pE_within (by omega)]
  by_cases c1 : 0 ≤ w1 ∧ w1 ≤ 4
  · obtain ⟨C, w', cr', cn', dr', xs', ys', sz', k', x', y', o', kc', th', m', sec', nx', ny', now', pX', pY', np', mcr', mcc', nc', mk', mx', my', mo', mnx', mny', sewn', rY', e1, e2, ⟨b1, b2, b3, b4⟩, hpr, hcm, hC', hM'⟩ := pR_both (w := w) (cn := cn) (cr := cr) (nx := nx) (ny := ny) (now := now) (pX := pX) (pY := pY) (np := np) (mcr := mcr) (mcc := mcc) (rY := rY) (mnx := mnx) (mny := mny) (sewn := sewn) hS hP hC hM
    have h1 := hpr.1.1
    have h2 := hcm.1
    have hl := zlp_sum (body := fun z => f_X7_count_L23 n mcol mla mic mco mcX mcY mde mlo msh mpu mhu bd pX' pY' np' mcr' mcc' 1 nc' mk' mx' my' mo' mnx' mny' sewn' 0 rY' w1 z.1 z.2) (g := qIsK w1) hcm (by omega) (by
      intro a j j0 j1 ha
      have hb := qSum_tb (g := qIsK w1) (n := n) (M := 1) (by omega) (fun m _ => qIsK_b) b2 j.toNat
      have hwf := (b3 _ (qRow_mem hcm (i := j) j0 j1)).1
      replace hwf : 0 ≤ mk' j ∧ mk' j ≤ 4 := hwf
      have hg : qIsK w1 (mk' j, mx' j, my' j, mo' j) = if mk' j = w1 then 1 else 0 := rfl
      show f_X7_count_L23 n mcol mla mic mco mcX mcY mde mlo msh mpu mhu bd pX' pY' np' mcr' mcc' 1 nc' mk' mx' my' mo' mnx' mny' sewn' 0 rY' w1 a j = _
      unfold f_X7_count_L23
      by_cases z : mk' j = w1
      · rw [if_pos z] at hg
        rw [hg]
        simp (disch := omega) only [zck_t, if_pos, if_neg, zlt]
      · rw [if_neg z] at hg
        rw [hg]
        simp (disch := omega) only [zck_t, if_neg, zlt]) (by
      intro a
      show f_X7_count_L23 n mcol mla mic mco mcX mcY mde mlo msh mpu mhu bd pX' pY' np' mcr' mcc' 1 nc' mk' mx' my' mo' mnx' mny' sewn' 0 rY' w1 a nc' = _
      unfold f_X7_count_L23
      simp (disch := omega) only [zck_t, if_pos])
    have hkc : kc' w1 = qSum (qIsK w1) C := hpr.2.1 w1 c1.1 (by omega)
    have hb := qSum_b (g := qIsK w1) (M := 1) (C := C) (by omega) (fun m _ => qIsK_b)
    refine ⟨w', 1, cr', cn', dr', xs', ys', sz', k', x', y', o', kc', th', m', sec', nx', ny', now', pX', pY', np', mcr', mcc', 1, nc', mk', mx', my', mo', mnx', mny', sewn', 0, rY', qSum (qIsK w1) C, ?_, hC', hM'⟩
    simp (disch := omega) only [zb1_e, zb2_e, zck_t, if_pos, if_neg, pE_asks1, e1, e2, zb19_e, zb15_e, hkc]
    rw [hl]
    simp (disch := omega) only [zb1_e, zb2_e, zb17_e, zb21_e, zck_t, if_pos, if_neg, if_true, if_false, not_true_eq_false]
  · refine ⟨w, pl, cr, cn, dr, xs, ys, sz, k, x, y, o, kc, th, m, sec, nx, ny, now, pX, pY, np, mcr, mcc, kn, nc, mk, mx, my, mo, mnx, mny, sewn, 1, rY, out, ?_, hC, hM⟩
    simp (disch := omega) only [zb1_e, zb2_e, zb17_e, zb21_e, zck_t, if_pos, if_neg, if_true, if_false, not_true_eq_false, not_false_eq_true, pE_asks0]
theorem pL_thread {bd pl m nx ny now np mcc kn nc mnx mny thr rY n out w1 w2 : Int} {sec : UInt32} {P : Int → List (Int × Int)} {w la co cl cc de le sh pu un dr sz cn k x y o kc th mcol mla mic mco mcX mcY mde mlo msh mpu mhu sewn pX pY mcr mk mx my mo : Int → Int} {fx fy cr xs ys : Int → Int → Int} (hS : qSt n bd la co cl cc fx fy de le sh pu un mcol mla mic mco mcX mcY mde mlo msh mpu mhu) (hP : P = qPF cl cc fx fy de le sh pu un) (hC : qCl n la co P bd pl dr xs ys sz k x y o kc th m sec) (hM : qMl n la co P bd kn mk mx my mo nc) (hw : zR w1) (hn : 0 ≤ n ∧ n ≤ 8) :
    ∃ (w' : Int → Int) (pl' : Int) (cr' : Int → Int → Int) (cn' dr' : Int → Int) (xs' ys' : Int → Int → Int) (sz' k' x' y' o' kc' th' : Int → Int) (m' : Int) (sec' : UInt32) (nx' ny' now' : Int) (pX' pY' : Int → Int) (np' : Int) (mcr' : Int → Int) (mcc' kn' nc' : Int) (mk' mx' my' mo' : Int → Int) (mnx' mny' : Int) (sewn' : Int → Int) (thr' rY' : Int) (out' : Int), f_law_thread w bd pl co la cl fx fy cr cc cn de le sh pu un dr xs ys sz k x y o kc th m sec nx ny now n mcol mla mic mco mcX mcY mde mlo msh mpu mhu bd pX pY np mcr mcc kn nc mk mx my mo mnx mny sewn thr rY out n w1 = some (w', pl', cr', cn', dr', xs', ys', sz', k', x', y', o', kc', th', m', sec', nx', ny', now', pX', pY', np', mcr', mcc', kn', nc', mk', mx', my', mo', mnx', mny', sewn', thr', rY', out') ∧ qCl n la co P bd pl' dr' xs' ys' sz' k' x' y' o' kc' th' m' sec' ∧ qMl n la co P bd kn' mk' mx' my' mo' nc' := by
  unfold f_law_thread f_L_thread f_X6_thread f_X7_thread f_X7_thrown
  rw [pE_in (by omega), pE_within (by omega)]
  by_cases c1 : 0 ≤ w1 ∧ w1 ≤ 5
  · obtain ⟨C, w', cr', cn', dr', xs', ys', sz', k', x', y', o', kc', th', m', sec', nx', ny', now', pX', pY', np', mcr', mcc', nc', mk', mx', my', mo', mnx', mny', sewn', rY', e1, e2, ⟨b1, b2, b3, b4⟩, hpr, hcm, hC', hM'⟩ := pR_both (w := w) (cn := cn) (cr := cr) (nx := nx) (ny := ny) (now := now) (pX := pX) (pY := pY) (np := np) (mcr := mcr) (mcc := mcc) (rY := rY) (mnx := mnx) (mny := mny) (sewn := sewn) hS hP hC hM
    have h1 := hpr.1.1
    have h2 := hcm.1
    have hl := zlp_sum (body := fun z => f_X7_thread_L23 n mcol mla mic mco mcX mcY mde mlo msh mpu mhu bd pX' pY' np' mcr' mcc' 1 nc' mk' mx' my' mo' mnx' mny' sewn' 0 rY' w1 z.1 z.2) (g := qThr co w1) hcm (by omega) (by
      intro a j j0 j1 ha
      have hb := qSum_tb (g := qThr co w1) (n := n) (M := 255) (by omega) (fun m hm => qThr_b (b3 m hm)) b2 j.toNat
      obtain ⟨f1, f2, f3, f4, f5, f6⟩ := b3 _ (qRow_mem hcm (i := j) j0 j1)
      replace f1 : 0 ≤ mk' j ∧ mk' j ≤ 4 := f1
      replace f4 : mk' j = 0 → qG (mx' j) (my' j) ≤ 12 := f4
      replace f5 : mk' j ≤ 1 → (0 ≤ mo' j ∧ mo' j < n) ∧ _ := f5
      have hg : qThr co w1 (mk' j, mx' j, my' j, mo' j) = if mk' j = 0 ∧ co (mo' j) = w1 then qRoot (100 * (mx' j * mx' j + my' j * my' j)) else 0 := rfl
      show f_X7_thread_L23 n mcol mla mic mco mcX mcY mde mlo msh mpu mhu bd pX' pY' np' mcr' mcc' 1 nc' mk' mx' my' mo' mnx' mny' sewn' 0 rY' w1 a j = _
      unfold f_X7_thread_L23 f_X7_thread_L23_59 f_X7_thread_L23_60
      by_cases z : mk' j = 0
      · have hf := (f5 (by omega)).1
        have hco := (hS.2.2.1 (mo' j) hf.1 hf.2).1
        have hco2 := (hS.1.2 (mo' j) hf.1 hf.2).2
        by_cases z2 : co (mo' j) = w1
        · rw [if_pos ⟨z, z2⟩] at hg
          rw [hg]
          have hgg := qG_e (mx' j) (my' j)
          have h12 := f4 z
          have q1 := qSqr (d := mx' j) (D := 12) (by omega)
          have q2 := qSqr (d := my' j) (D := 12) (by omega)
          have hro := pE_root (v := 100 * (mx' j * mx' j + my' j * my' j)) (by omega)
          simp (disch := omega) only [zck_t, if_pos, if_neg, zlt, hco, hro.1, zb1_e]
        · rw [if_neg (fun v => z2 v.2)] at hg
          rw [hg]
          simp (disch := omega) only [zck_t, if_pos, if_neg, if_true, zlt, hco]
      · rw [if_neg (fun v => z v.1)] at hg
        rw [hg]
        simp (disch := omega) only [zck_t, if_neg, if_true, zlt]) (by
      intro a
      show f_X7_thread_L23 n mcol mla mic mco mcX mcY mde mlo msh mpu mhu bd pX' pY' np' mcr' mcc' 1 nc' mk' mx' my' mo' mnx' mny' sewn' 0 rY' w1 a nc' = _
      unfold f_X7_thread_L23
      simp (disch := omega) only [zck_t, if_pos])
    have hth : th' w1 = qSum (qThr co w1) C := hpr.2.2.1 w1 c1.1 (by omega)
    have hb := qSum_b (g := qThr co w1) (M := 255) (C := C) (by omega) (fun m hm => qThr_b (b3 m hm))
    refine ⟨w', 1, cr', cn', dr', xs', ys', sz', k', x', y', o', kc', th', m', sec', nx', ny', now', pX', pY', np', mcr', mcc', 1, nc', mk', mx', my', mo', mnx', mny', sewn', 0, rY', qSum (qThr co w1) C, ?_, hC', hM'⟩
    simp (disch := omega) only [zb1_e, zb2_e, zck_t, if_pos, if_neg, pE_asks1, e1, e2, zb19_e, zb15_e, hth]
    rw [hl]
    simp (disch := omega) only [zb1_e, zb2_e, zb17_e, zb21_e, zck_t, if_pos, if_neg, if_true, if_false, not_true_eq_false]
  · refine ⟨w, pl, cr, cn, dr, xs, ys, sz, k, x, y, o, kc, th, m, sec, nx, ny, now, pX, pY, np, mcr, mcc, kn, nc, mk, mx, my, mo, mnx, mny, sewn, 1, rY, out, ?_, hC, hM⟩
    simp (disch := omega) only [zb1_e, zb2_e, zb17_e, zb21_e, zck_t, if_pos, if_neg, if_true, if_false, not_true_eq_false, not_false_eq_true, pE_asks0]
theorem pL_time {bd pl m nx ny now np mcc kn nc mnx mny thr rY n out w1 w2 : Int} {sec : UInt32} {P : Int → List (Int × Int)} {w la co cl cc de le sh pu un dr sz cn k x y o kc th mcol mla mic mco mcX mcY mde mlo msh mpu mhu sewn pX pY mcr mk mx my mo : Int → Int} {fx fy cr xs ys : Int → Int → Int} (hS : qSt n bd la co cl cc fx fy de le sh pu un mcol mla mic mco mcX mcY mde mlo msh mpu mhu) (hP : P = qPF cl cc fx fy de le sh pu un) (hC : qCl n la co P bd pl dr xs ys sz k x y o kc th m sec) (hM : qMl n la co P bd kn mk mx my mo nc) :
    ∃ (w' : Int → Int) (pl' : Int) (cr' : Int → Int → Int) (cn' dr' : Int → Int) (xs' ys' : Int → Int → Int) (sz' k' x' y' o' kc' th' : Int → Int) (m' : Int) (sec' : UInt32) (nx' ny' now' : Int) (pX' pY' : Int → Int) (np' : Int) (mcr' : Int → Int) (mcc' kn' nc' : Int) (mk' mx' my' mo' : Int → Int) (mnx' mny' : Int) (sewn' : Int → Int) (thr' rY' : Int), f_law_time w bd pl co la cl fx fy cr cc cn de le sh pu un dr xs ys sz k x y o kc th m sec nx ny now n mcol mla mic mco mcX mcY mde mlo msh mpu mhu bd pX pY np mcr mcc kn nc mk mx my mo mnx mny sewn thr rY n = some (w', pl', cr', cn', dr', xs', ys', sz', k', x', y', o', kc', th', m', sec', nx', ny', now', pX', pY', np', mcr', mcc', kn', nc', mk', mx', my', mo', mnx', mny', sewn', thr', rY') ∧ qCl n la co P bd pl' dr' xs' ys' sz' k' x' y' o' kc' th' m' sec' ∧ qMl n la co P bd kn' mk' mx' my' mo' nc' := by
  obtain ⟨C, w', cr', cn', dr', xs', ys', sz', k', x', y', o', kc', th', m', sec', nx', ny', now', pX', pY', np', mcr', mcc', nc', mk', mx', my', mo', mnx', mny', sewn', rY', e1, e2, ⟨b1, b2, b3, b4⟩, hpr, hcm, hC', hM'⟩ := pR_both (w := w) (cn := cn) (cr := cr) (nx := nx) (ny := ny) (now := now) (pX := pX) (pY := pY) (np := np) (mcr := mcr) (mcc := mcc) (rY := rY) (mnx := mnx) (mny := mny) (sewn := sewn) hS hP hC hM
  have h1 := hpr.1.1
  have h2 := hcm.1
  have hsec : sec' = qSec C := hpr.2.2.2
  have hn0 := qRow_nn hcm
  have H : ∃ q, zlp (fun z => f_X7_time_L13 n mcol mla mic mco mcX mcY mde mlo msh mpu mhu bd pX' pY' np' mcr' mcc' 1 nc' mk' mx' my' mo' mnx' mny' sewn' 0 rY' z.1 z.2) zFU (0, 0) = some q ∧ (q.1 = qSec C) := by
    refine zlp_for (fun s : UInt32 × Int => s.2) (lo := 0) (hi := nc') (fun j s => s.1 = qSec (C.take j.toNat)) _ hn0 (by omega) ?_ ?_ (0, 0) rfl rfl
    · intro s j0 j1 hR
      obtain ⟨a, j⟩ := s
      replace j0 : 0 ≤ j := j0
      replace j1 : j < nc' := j1
      replace hR : a = qSec (C.take j.toNat) := hR
      obtain ⟨f1, f2, f3, f4, f5, f6⟩ := b3 _ (qRow_mem hcm (i := j) j0 j1)
      replace f1 : 0 ≤ mk' j ∧ mk' j ≤ 4 := f1
      replace f2 : -37 ≤ mx' j ∧ mx' j ≤ 37 := f2
      replace f3 : -37 ≤ my' j ∧ my' j ≤ 37 := f3
      have hst := qSec_take hcm j0 j1
      have hms : f_X7_secondsOf mk' mx' my' j = some (qSecM (mk' j, mx' j, my' j, mo' j)) := by
        have hg := qG_e (mx' j) (my' j)
        unfold f_X7_secondsOf qSecM
        rw [pE_size (by omega), pE_size (by omega)]
        show _ = some (if mk' j = 0 then (if 4 < qG (mx' j) (my' j) then 1036831949 else 1033476506) else if mk' j = 1 then 1045220557 else if mk' j = 2 then 1086324736 else if mk' j = 3 then 1090519040 else 0)
        by_cases k0 : mk' j = 0
        · rw [if_pos k0]
          by_cases g1 : 4 < ((mx' j).natAbs : Int)
          · rw [if_pos (show 4 < qG (mx' j) (my' j) by omega)]
            simp (disch := omega) only [zck_t, if_pos, zb1_e]
          · by_cases g2 : 4 < ((my' j).natAbs : Int)
            · rw [if_pos (show 4 < qG (mx' j) (my' j) by omega)]
              simp (disch := omega) only [zck_t, if_pos, if_neg, zb1_e]
            · rw [if_neg (show ¬ 4 < qG (mx' j) (my' j) by omega)]
              simp (disch := omega) only [zck_t, if_pos, if_neg, zb1_e]
        · rw [if_neg k0]
          by_cases k1 : mk' j = 1
          · rw [if_pos k1]
            simp (disch := omega) only [zck_t, if_pos, if_neg]
          · rw [if_neg k1]
            by_cases k2 : mk' j = 2
            · rw [if_pos k2]
              simp (disch := omega) only [zck_t, if_pos, if_neg]
            · rw [if_neg k2]
              by_cases k3 : mk' j = 3
              · rw [if_pos k3]
                simp (disch := omega) only [zck_t, if_pos, if_neg]
              · rw [if_neg k3]
                simp (disch := omega) only [zck_t, if_neg]
      have hfa : FP.fadd a (qSecM (mk' j, mx' j, my' j, mo' j)) = qSec (C.take (j.toNat + 1)) := by rw [hst, hR]
      have hzn : zn32 (FP.fadd a (qSecM (mk' j, mx' j, my' j, mo' j))) := by
        rw [hfa]
        exact qFp_zn (qSec_p _)
      refine ⟨(FP.fadd a (qSecM (mk' j, mx' j, my' j, mo' j)), j + 1), ?_, rfl, ?_⟩
      · show f_X7_time_L13 n mcol mla mic mco mcX mcY mde mlo msh mpu mhu bd pX' pY' np' mcr' mcc' 1 nc' mk' mx' my' mo' mnx' mny' sewn' 0 rY' a j = _
        unfold f_X7_time_L13
        simp (disch := first | omega | assumption) only [zck_t, if_neg, hms, zb1_e, zlt]
      · show FP.fadd a (qSecM (mk' j, mx' j, my' j, mo' j)) = qSec (C.take (j + 1).toNat)
        rw [show (j + 1).toNat = j.toNat + 1 by omega]
        exact hfa
    · intro s j0 hR
      obtain ⟨a, j⟩ := s
      replace j0 : j = nc' := j0
      replace hR : a = qSec (C.take nc'.toNat) := hR
      rw [qRow_all hcm] at hR
      refine ⟨(a, j), ?_, hR⟩
      show f_X7_time_L13 n mcol mla mic mco mcX mcY mde mlo msh mpu mhu bd pX' pY' np' mcr' mcc' 1 nc' mk' mx' my' mo' mnx' mny' sewn' 0 rY' a j = _
      unfold f_X7_time_L13
      simp (disch := omega) only [zck_t, if_pos]
  obtain ⟨⟨a, j⟩, eL, ha⟩ := H
  replace ha : a = qSec C := ha
  subst ha
  have hd := qFp_d (qSec_p C)
  refine ⟨w', 1, cr', cn', dr', xs', ys', sz', k', x', y', o', kc', th', m', sec', nx', ny', now', pX', pY', np', mcr', mcc', 1, nc', mk', mx', my', mo', mnx', mny', sewn', 0, rY', ?_, hC', hM'⟩
  unfold f_law_time f_X6_time f_X7_time
  rw [e1, e2]
  simp only [zb19_e, zb15_e]
  rw [eL]
  simp only [zb2_e, zb17_e, zb20_e]
  rw [hsec, zck_t hd.1, zck_t hd.1, zck_t ⟨rfl, hd.2⟩]
