/-! ===== covered: the model, and the comparison ===== -/
theorem pE_mpart {n bd np kn nc mnx mny thr rY f tc c de : Int} {mcol mla mic mco mcX mcY mde mlo msh mpu mhu sewn pX pY cr mk mx my mo T cx cy : Int → Int} {cc : Int} (hf : 0 ≤ f ∧ f < 8) (hc : 0 ≤ c ∧ c ≤ 8) (hb : qIn cx cy c) (hm : qCor f c cx cy mco mcX mcY) (hd : mde f = de) (hde : 1 ≤ de ∧ de ≤ 8) (h01 : ∀ v, 0 ≤ v → v < 1024 → T v = 0 ∨ T v = 1) (htc : 0 ≤ tc ∧ tc ≤ 1024) (htz : tc = 0 → ∀ v, 0 ≤ v → v < 1024 → T v = 0) :
    ∃ y cr' n', zlp (fun z => f_X7_covered_L49 n mcol mla mic mco mcX mcY mde mlo msh mpu mhu bd pX pY np kn nc mk mx my mo mnx mny sewn T thr rY f tc z.1 z.2.1 z.2.2.1 z.2.2.2.1 z.2.2.2.2) zFU (0, 0, 0, cr, cc) = some (qSm (qFA cx cy c) 0 32, qSm (qFB cx cy c de T) 0 32, y, cr', n') := by
  have H : ∃ q, zlp (fun z => f_X7_covered_L49 n mcol mla mic mco mcX mcY mde mlo msh mpu mhu bd pX pY np kn nc mk mx my mo mnx mny sewn T thr rY f tc z.1 z.2.1 z.2.2.1 z.2.2.2.1 z.2.2.2.2) zFU (0, 0, 0, cr, cc) = some q ∧ (q.1 = qSm (qFA cx cy c) 0 32 ∧ q.2.1 = qSm (qFB cx cy c de T) 0 32) := by
    refine zlp_for (fun s : Int × Int × Int × (Int → Int) × Int => s.2.2.1) (lo := 0) (hi := 32) (fun y s => s.1 = qSm (qFA cx cy c) 0 y ∧ s.2.1 = qSm (qFB cx cy c de T) 0 y) _ (by omega) (by omega) ?_ ?_ (0, 0, 0, cr, cc) rfl ⟨(qSm_nil (Int.le_refl _)).symm, (qSm_nil (Int.le_refl _)).symm⟩
    · intro s h0 h1 hR
      obtain ⟨al, ar, y, cr, cc⟩ := s
      replace h0 : 0 ≤ y := h0
      replace h1 : y < 32 := h1
      obtain ⟨r1, r2⟩ := hR
      replace r1 : al = qSm (qFA cx cy c) 0 y := r1
      replace r2 : ar = qSm (qFB cx cy c de T) 0 y := r2
      obtain ⟨cr2, n2, ec, hr⟩ := pE_crosses (cr := cr) (cc := cc) (y := y) hf hc hb hm (by omega)
      have hok := qCr_ok (y := y) hc hb
      have h8 := hok.2.2.1
      have hev := hok.2.2.2
      have hnl := hr.1
      have H2 : ∃ q, zlp (fun z => f_X7_covered_L66 n mcol mla mic mco mcX mcY mde mlo msh mpu mhu bd pX pY np cr2 n2 kn nc mk mx my mo mnx mny sewn T thr rY f tc y z.1 z.2.1 z.2.2) zFU (al, ar, 0) = some q ∧ (q.1 = al + qFA cx cy c y ∧ q.2.1 = ar + qFB cx cy c de T y) := by
        refine zlp_for (fun s : Int × Int × Int => s.2.2) (lo := 0) (hi := 32) (fun x s => s.1 = al + qCt (qRA (qCr cx cy c y)) x ∧ s.2.1 = ar + qCt (qRB (qCr cx cy c y) T y de) x) _ (by omega) (by omega) ?_ ?_ (al, ar, 0) rfl ⟨by rw [qCt_0]; show al = al + 0; omega, by rw [qCt_0]; show ar = ar + 0; omega⟩
        · intro s x0 x1 hR
          obtain ⟨al', ar', x⟩ := s
          replace x0 : 0 ≤ x := x0
          replace x1 : x < 32 := x1
          obtain ⟨q1, q2⟩ := hR
          replace q1 : al' = al + qCt (qRA (qCr cx cy c y)) x := q1
          replace q2 : ar' = ar + qCt (qRB (qCr cx cy c y) T y de) x := q2
          have H3 : ∃ q, zlp (fun z => f_X7_covered_L79 n mcol mla mic mco mcX mcY mde mlo msh mpu mhu bd pX pY np cr2 n2 kn nc mk mx my mo mnx mny sewn T thr rY f tc al' ar' y x z.1 z.2) zFU (0, 0) = some q ∧ q.1 = qB (qSpB (qCr cx cy c y) x) := by
            refine zlp_for (fun s : Int × Int => s.2 / 2) (lo := 0) (hi := ((qCr cx cy c y).length : Int) / 2) (fun j s => s.2 = 2 * j ∧ s.1 = qB (qAny (qSp (qCr cx cy c y) x) 0 j)) _ (by omega) (by omega) ?_ ?_ (0, 0) rfl ⟨rfl, by rw [qAny_nil (Int.le_refl _)]; rfl⟩
            · intro s j0 j1 hR
              obtain ⟨i, v⟩ := s
              replace j0 : 0 ≤ v / 2 := j0
              replace j1 : v / 2 < ((qCr cx cy c y).length : Int) / 2 := j1
              obtain ⟨hs, hR⟩ := hR
              replace hs : v = 2 * (v / 2) := hs
              replace hR : i = qB (qAny (qSp (qCr cx cy c y) x) 0 (v / 2)) := hR
              show ∃ s', f_X7_covered_L79 n mcol mla mic mco mcX mcY mde mlo msh mpu mhu bd pX pY np cr2 n2 kn nc mk mx my mo mnx mny sewn T thr rY f tc al' ar' y x i v = some (.inl s') ∧ s'.2 / 2 = v / 2 + 1 ∧ (s'.2 = 2 * (v / 2 + 1) ∧ s'.1 = qB (qAny (qSp (qCr cx cy c y) x) 0 (v / 2 + 1)))
              generalize hj : v / 2 = j at *
              subst hs
              have e1 := qGet_row hr (i := 2 * j) (by omega) (by omega)
              have e2 := qGet_row hr (i := 2 * j + 1) (by omega) (by omega)
              have hbb := qGet_le hok (i := 2 * j) (j := 2 * j + 1) (by omega) (by omega) (by omega)
              refine ⟨(qB (qAny (qSp (qCr cx cy c y) x) 0 j || qSp (qCr cx cy c y) x j), 2 * j + 2), ?_, by show (2 * j + 2) / 2 = j + 1; omega, by show 2 * j + 2 = 2 * (j + 1); omega, by show _ = qB (qAny (qSp (qCr cx cy c y) x) 0 (j + 1)); rw [qAny_s j0]⟩
              unfold f_X7_covered_L79 f_X7_covered_L79_121
              rw [e1, e2]
              cases hq : qAny (qSp (qCr cx cy c y) x) 0 j with
              | true =>
                rw [hq, qB_t] at hR
                rw [Bool.true_or, qB_t]
                simp (disch := omega) only [zck_t, if_neg]
              | false =>
                rw [hq, qB_f] at hR
                rw [Bool.false_or]
                by_cases z : qGet (qCr cx cy c y) (2 * j) ≤ x ∧ x ≤ qGet (qCr cx cy c y) (2 * j + 1)
                · have hp : qSp (qCr cx cy c y) x j = true := decide_eq_true z
                  rw [hp, qB_t]
                  simp (disch := omega) only [zck_t, if_neg, if_pos]
                · have hp : qSp (qCr cx cy c y) x j = false := decide_eq_false z
                  rw [hp, qB_f]
                  by_cases z1 : x < qGet (qCr cx cy c y) (2 * j)
                  · simp (disch := omega) only [zck_t, if_neg, if_pos]
                  · simp (disch := omega) only [zck_t, if_neg, if_pos]
            · intro s j0 hR
              obtain ⟨i, v⟩ := s
              replace j0 : v / 2 = ((qCr cx cy c y).length : Int) / 2 := j0
              obtain ⟨hs, hR⟩ := hR
              replace hs : v = 2 * (((qCr cx cy c y).length : Int) / 2) := hs
              refine ⟨(i, v), ?_, hR⟩
              show f_X7_covered_L79 n mcol mla mic mco mcX mcY mde mlo msh mpu mhu bd pX pY np cr2 n2 kn nc mk mx my mo mnx mny sewn T thr rY f tc al' ar' y x i v = _
              unfold f_X7_covered_L79
              simp (disch := omega) only [zck_t, if_pos]
          obtain ⟨⟨i, v⟩, e3, hi⟩ := H3
          replace hi : i = qB (qSpB (qCr cx cy c y) x) := hi
          subst hi
          have en := pE_iscov (mde := mde) (T := T) (f := f) (x := x) (y := y) hf hd h01 (by omega) (by omega) hde
          refine ⟨(al' + qRA (qCr cx cy c y) x, ar' + qRB (qCr cx cy c y) T y de x, x + 1), ?_, rfl, ?_, ?_⟩
          · show f_X7_covered_L66 n mcol mla mic mco mcX mcY mde mlo msh mpu mhu bd pX pY np cr2 n2 kn nc mk mx my mo mnx mny sewn T thr rY f tc y al' ar' x = _
            unfold f_X7_covered_L66
            simp (disch := omega) only [zck_t, if_neg]
            rw [e3]
            simp only [zb2_e]
            unfold f_X7_covered_L66_145 qRA qRB
            rw [en]
            cases hq : qSpB (qCr cx cy c y) x with
            | false =>
              rw [Bool.false_and, qB_f]
              simp (disch := omega) only [zck_t, if_pos, if_true, zlt]
            | true =>
              rw [Bool.true_and, qB_t]
              by_cases z : tc ≤ 0
              · rw [qNrB_0 (htz (by omega)) (by omega), qB_f]
                simp (disch := omega) only [zck_t, if_neg, if_pos, zlt]
              · cases hq2 : qNrB T x y de with
                | false =>
                  rw [qB_f]
                  simp (disch := omega) only [zck_t, if_neg, if_pos, zb1_e, if_true, zlt]
                | true =>
                  rw [qB_t]
                  simp (disch := omega) only [zck_t, if_neg, zb1_e, zlt]
          · show al' + qRA (qCr cx cy c y) x = al + qCt (qRA (qCr cx cy c y)) (x + 1)
            rw [qCt_s x0]
            omega
          · show ar' + qRB (qCr cx cy c y) T y de x = ar + qCt (qRB (qCr cx cy c y) T y de) (x + 1)
            rw [qCt_s x0]
            omega
        · intro s x0 hR
          obtain ⟨al', ar', x⟩ := s
          replace x0 : x = 32 := x0
          refine ⟨(al', ar', x), ?_, hR⟩
          show f_X7_covered_L66 n mcol mla mic mco mcX mcY mde mlo msh mpu mhu bd pX pY np cr2 n2 kn nc mk mx my mo mnx mny sewn T thr rY f tc y al' ar' x = _
          unfold f_X7_covered_L66
          simp (disch := omega) only [zck_t, if_pos]
      obtain ⟨⟨al', ar', x⟩, e2, g1, g2⟩ := H2
      replace g1 : al' = al + qFA cx cy c y := g1
      replace g2 : ar' = ar + qFB cx cy c de T y := g2
      refine ⟨(al', ar', y + 1, cr2, n2), ?_, rfl, ?_, ?_⟩
      · show f_X7_covered_L49 n mcol mla mic mco mcX mcY mde mlo msh mpu mhu bd pX pY np kn nc mk mx my mo mnx mny sewn T thr rY f tc al ar y cr cc = _
        unfold f_X7_covered_L49
        simp (disch := omega) only [zck_t, if_neg, ec, zb2_e]
        rw [e2]
        rfl
      · show al' = qSm (qFA cx cy c) 0 (y + 1)
        rw [qSm_s h0, g1, r1]
      · show ar' = qSm (qFB cx cy c de T) 0 (y + 1)
        rw [qSm_s h0, g2, r2]
    · intro s h0 hR
      obtain ⟨al, ar, y, cr, cc⟩ := s
      replace h0 : y = 32 := h0
      refine ⟨(al, ar, y, cr, cc), ?_, hR⟩
      show f_X7_covered_L49 n mcol mla mic mco mcX mcY mde mlo msh mpu mhu bd pX pY np kn nc mk mx my mo mnx mny sewn T thr rY f tc al ar y cr cc = _
      unfold f_X7_covered_L49
      simp (disch := omega) only [zck_t, if_pos]
  obtain ⟨⟨al, ar, y, cr', n'⟩, e, g1, g2⟩ := H
  replace g1 : al = qSm (qFA cx cy c) 0 32 := g1
  replace g2 : ar = qSm (qFB cx cy c de T) 0 32 := g2
  subst g1
  subst g2
  exact ⟨y, cr', n', e⟩
theorem qFB_congr {cx cy : Int → Int} {c de : Int} {a b : Int → Int} (h : ∀ v, 0 ≤ v → v < 1024 → a v = b v) : qSm (qFB cx cy c de a) 0 32 = qSm (qFB cx cy c de b) 0 32 := by
  have key : ∀ n : Nat, (n : Int) ≤ 32 → qSm (qFB cx cy c de a) 0 n = qSm (qFB cx cy c de b) 0 n := by
    intro n
    induction n with
    | zero => intro _; rw [show ((0 : Nat) : Int) = 0 from rfl, qSm_nil (Int.le_refl _), qSm_nil (Int.le_refl _)]
    | succ n ih =>
      intro hn
      rw [show ((n + 1 : Nat) : Int) = (n : Int) + 1 by omega, qSm_s (by omega), qSm_s (by omega), ih (by omega)]
      congr 1
      unfold qFB
      have := qCt_congr (a := qRB (qCr cx cy c n) a n de) (b := qRB (qCr cx cy c n) b n de) 32 (fun x x0 x1 => by
        unfold qRB
        have e : qNrB a x n de = qNrB b x n de := by
          apply Bool.eq_iff_iff.mpr
          unfold qNrB
          rw [qAny_iff, qAny_iff]
          constructor
          · intro ⟨i, h1, h2, h3⟩
            have := of_decide_eq_true h3
            rw [h (32 * i + x) (by omega) (by omega)] at this
            exact ⟨i, h1, h2, decide_eq_true this⟩
          · intro ⟨i, h1, h2, h3⟩
            have := of_decide_eq_true h3
            rw [← h (32 * i + x) (by omega) (by omega)] at this
            exact ⟨i, h1, h2, decide_eq_true this⟩
        rw [e])
      exact this
  exact key 32 (by omega)
theorem pL_covered {bd pl m np mcc kn nc mnx mny thr rY n rc w1 : Int} {sec : UInt32} {P : Int → List (Int × Int)} {la co cl cc de le sh pu un dr sz cn k x y o kc th mcol mla mic mco mcX mcY mde mlo msh mpu mhu sewn pX pY mcr mk mx my mo T ra : Int → Int} {fx fy cr xs ys : Int → Int → Int} {outD : UInt64} (hS : qSt n bd la co cl cc fx fy de le sh pu un mcol mla mic mco mcX mcY mde mlo msh mpu mhu) (hP : P = qPF cl cc fx fy de le sh pu un) (hC : qCl n la co P bd pl dr xs ys sz k x y o kc th m sec) (hM : qMl n la co P bd kn mk mx my mo nc) (hw : zR w1) :
    ∃ (cr' : Int → Int → Int) (cn' dr' : Int → Int) (xs' ys' : Int → Int → Int) (sz' ra' : Int → Int) (rc' : Int) (pX' pY' : Int → Int) (np' : Int) (mcr' : Int → Int) (mcc' kn' nc' : Int) (mk' mx' my' mo' : Int → Int) (mnx' mny' : Int) (sewn' T' : Int → Int) (thr' rY' : Int) (outD' : UInt64), f_law_covered n cl fx fy cr cc cn de le sh pu un dr xs ys sz ra rc n mcol mla mic mco mcX mcY mde mlo msh mpu mhu bd pX pY np mcr mcc kn nc mk mx my mo mnx mny sewn T thr rY outD n w1 = some (cr', cn', dr', xs', ys', sz', ra', rc', pX', pY', np', mcr', mcc', kn', nc', mk', mx', my', mo', mnx', mny', sewn', T', thr', rY', outD') ∧ qCl n la co P bd pl dr' xs' ys' sz' k x y o kc th m sec ∧ qMl n la co P bd kn' mk' mx' my' mo' nc' := by
  obtain ⟨h1, h2, h3, h4⟩ := id hS
  have hn := h1.1
  unfold f_law_covered f_L_covered f_X6_covered f_X7_covered f_X7_thrown
  rw [pE_isField hn hw, pE_numbered hn hw]
  by_cases c : 0 ≤ w1 ∧ w1 ≤ n - 1
  · have hFd := h2 w1 (by omega) (by omega)
    obtain ⟨hcol, hcc, hc4, hin, hde, hle, hsh, hpu, hun⟩ := id hFd
    obtain ⟨mm1, mm2, mm3⟩ := h3 w1 (by omega) (by omega)
    have hco := mm3.1.1
    have hic := mm3.2.1
    by_cases z : cl w1 = 0
    · obtain ⟨cr1, cn1, xs1, ys1, n1, ed, hq, hD⟩ := pE_draw1 (cr := cr) (cn := cn) h2 hP hC.1 (i := w1) (by omega) (by omega)
      have hPb := qPts_b hFd
      have hPx := qPts_box hFd
      have hPe : P w1 = qPts (cl w1) (cc w1) (fx w1) (fy w1) (de w1) (le w1) (sh w1) (pu w1) (un w1) := by rw [hP]; rfl
      rw [← hPe] at hPb hPx
      obtain ⟨ra', rc', ew, hcl, hct⟩ := pE_walk (a := ra) (n := rc) hq hPb.1 hPx
      have hra : ∀ v, 0 ≤ v → v < 1024 → ra' v = 0 ∨ ra' v = 1 := fun v v0 v1 => by rw [hcl v v0 v1]; exact qInd_01
      obtain ⟨cr2, cn2, ep, bA, bB⟩ := pE_part (cr := cr1) (n := cn1) hcc hin hde hra
      have hd := qFp_d (qV_p bA bB)
      by_cases c3 : 3 ≤ cc w1
      · obtain ⟨pX', pY', np', mcr', mcc', nc', mk', mx', my', mo', mnx', mny', sewn', T', rY', et, hct2, hM'⟩ := pE_mtouches (pX := pX) (pY := pY) (np := np) (mcr := mcr) (mcc := mcc) (rY := rY) (mnx := mnx) (mny := mny) (sewn := sewn) (T := T) hS hP hM (f := w1) (by omega)
        have hT : ∀ v, 0 ≤ v → v < 1024 → T' v = 0 ∨ T' v = 1 := fun v v0 v1 => by rw [hct2 v v0 v1]; exact qInd_01
        have hTb := qCells_b hct2
        obtain ⟨yy, cr3, n3, e3⟩ := pE_mpart (n := n) (bd := bd) (np := np') (kn := 1) (nc := nc') (mnx := mnx') (mny := mny') (thr := 0) (rY := rY') (f := w1) (tc := qCt T' 1024) (mcol := mcol) (mla := mla) (mic := mic) (mlo := mlo) (msh := msh) (mpu := mpu) (mhu := mhu) (sewn := sewn') (pX := pX') (pY := pY') (cr := mcr') (cc := mcc') (mk := mk') (mx := mx') (my := my') (mo := mo') (T := T') (by omega) hcc hin mm3.1 mm3.2.2.1 hde hT ⟨hTb.1, hTb.2.1⟩ hTb.2.2
        have hsame := qFB_congr (cx := fx w1) (cy := fy w1) (c := cc w1) (de := de w1) (a := T') (b := ra') (fun v v0 v1 => (hct2 v v0 v1).trans (hcl v v0 v1).symm)
        rw [hsame] at e3
        refine ⟨zup (zup cr w1 cr1) w1 cr2, zup (zup cn w1 cn1) w1 cn2, zup dr w1 1, zup xs w1 xs1, zup ys w1 ys1, zup sz w1 n1, ra', rc', pX', pY', np', cr3, n3, 1, nc', mk', mx', my', mo', mnx', mny', sewn', T', 0, rY', FP.f2d (qV (qSm (qFA (fx w1) (fy w1) (cc w1)) 0 32) (qSm (qFB (fx w1) (fy w1) (cc w1) (de w1) ra') 0 32)), ?_, ⟨hD, hC.2⟩, hM'⟩
        simp (disch := omega) only [zb1_e, zb2_e, zck_t, if_pos, if_neg, if_true, if_false, not_true_eq_false, pE_asks1, ed, zb6_e, zlt, zup_s, ew, ep, zb3_e, hco, hic, et, zb17_e]
        rw [e3]
        generalize qSm (qFA (fx w1) (fy w1) (cc w1)) 0 32 = al at *
        generalize qSm (qFB (fx w1) (fy w1) (cc w1) (de w1) ra') 0 32 = ar at *
        simp only [zb5_e]
        have hmodel : (zck (zR al) (if al = 0 then some ((0 : UInt32), pX', pY', np', cr3, n3, (1 : Int), nc', mk', mx', my', mo', mnx', mny', sewn', T', (0 : Int), rY') else zck (zn32 (FP.fdiv (FP.i2f (zI ar)) (FP.i2f (zI al)))) (some (FP.fdiv (FP.i2f (zI ar)) (FP.i2f (zI al)), pX', pY', np', cr3, n3, (1 : Int), nc', mk', mx', my', mo', mnx', mny', sewn', T', (0 : Int), rY')))) = some (qV al ar, pX', pY', np', cr3, n3, (1 : Int), nc', mk', mx', my', mo', mnx', mny', sewn', T', (0 : Int), rY') := by
          unfold qV
          by_cases z0 : al = 0
          · rw [if_pos z0, if_pos z0]
            exact zck_t (by omega)
          · have hz := qFp_zn (qFp_div (a := ar) (b := al) (by omega) (by omega)).1
            rw [if_neg z0, if_neg z0, zck_t (by omega), zck_t hz]
        rw [hmodel]
        simp only [zb10_e, not_true_eq_false, if_false]
        rw [zck_t hd.1]
        simp only [zb10_e, zb18_e, zb1_e]
        rw [zck_t (by decide), if_pos trivial, zck_t (by decide), if_pos trivial, zck_t ⟨hd.1, trivial, hd.2⟩]
      · have hnil : P w1 = [] := by rw [hPe, z]; exact qPts_few (by omega)
        rw [hnil] at hcl
        have hz0 : ∀ v, 0 ≤ v → v < 1024 → ra' v = 0 := fun v v0 v1 => by rw [hcl v v0 v1]; rfl
        have hB0 : qSm (qFB (fx w1) (fy w1) (cc w1) (de w1) ra') 0 32 = 0 := by
          have key : ∀ n : Nat, qSm (qFB (fx w1) (fy w1) (cc w1) (de w1) ra') 0 n = 0 := by
            intro n
            induction n with
            | zero => exact qSm_nil (Int.le_refl _)
            | succ n ih => rw [show ((n + 1 : Nat) : Int) = (n : Int) + 1 by omega, qSm_s (by omega), ih, qFB_0 hz0]; rfl
          exact key 32
        rw [hB0, qV_0 bA] at ep
        have hd0 := qFp_d qFp_0
        refine ⟨zup (zup cr w1 cr1) w1 cr2, zup (zup cn w1 cn1) w1 cn2, zup dr w1 1, zup xs w1 xs1, zup ys w1 ys1, zup sz w1 n1, ra', rc', pX, pY, np, mcr, mcc, kn, nc, mk, mx, my, mo, mnx, mny, sewn, T, 0, rY, FP.f2d 0, ?_, ⟨hD, hC.2⟩, hM⟩
        simp (disch := omega) only [zb1_e, zb2_e, zck_t, if_pos, if_neg, if_true, if_false, not_true_eq_false, pE_asks1, ed, zb6_e, zlt, zup_s, ew, ep, zb3_e, hco, hic]
        simp only [zb10_e, not_true_eq_false, if_false]
        rw [zck_t hd0.1]
        simp only [zb10_e, zb18_e, zb1_e]
        rw [zck_t (by decide), if_pos trivial, zck_t (by decide), if_pos trivial, zck_t ⟨hd0.1, trivial, hd0.2⟩]
    · have hd0 := qFp_d qFp_0
      refine ⟨cr, cn, dr, xs, ys, sz, ra, rc, pX, pY, np, mcr, mcc, kn, nc, mk, mx, my, mo, mnx, mny, sewn, T, 0, rY, FP.f2d 0, ?_, hC, hM⟩
      simp (disch := omega) only [zb1_e, zb2_e, zck_t, if_pos, if_neg, if_true, if_false, not_true_eq_false, pE_asks1, hic]
      simp only [zb10_e, not_true_eq_false, if_false]
      rw [zck_t hd0.1]
      simp only [zb10_e, zb18_e, zb1_e]
      rw [zck_t (by decide), if_pos trivial, zck_t (by decide), if_pos trivial, zck_t ⟨hd0.1, trivial, hd0.2⟩]
  · refine ⟨cr, cn, dr, xs, ys, sz, ra, rc, pX, pY, np, mcr, mcc, kn, nc, mk, mx, my, mo, mnx, mny, sewn, T, 1, rY, outD, ?_, hC, hM⟩
    simp (disch := omega) only [zb1_e, zb2_e, zck_t, if_pos, if_neg, if_true, if_false, not_true_eq_false, not_false_eq_true, pE_asks0, zb10_e, zb18_e]
