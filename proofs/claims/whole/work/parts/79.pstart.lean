/-! ===== the machine starts ===== -/
theorem pE_begin {m hc lc w1 w2 : Int} {k x y o sa br ba st : Int → Int} (hm : 0 ≤ m ∧ m ≤ 16641) (hk : ∀ j, 0 ≤ j → j < m → 0 ≤ k j ∧ k j ≤ 4) (hs : sa 0 = 0) {la cc pl : Int} : ∃ sa' br' ba' st', f_X1_begin k x y o m sa br ba st hc la cc pl w1 w2 = some (sa', br', ba', st', w1, w2, m, 0) ∧ (∀ j, 0 ≤ j → j ≤ m → sa' j = qCt (qK0 k) j) ∧ (∀ h, 0 ≤ h → h < 4 → br' h = 0 ∧ st' h = 0) := by
  have H1 : ∃ q, zlp (fun z => f_X1_begin_L23 k x y o m br ba st w1 w2 0 z.1 z.2.1 z.2.2) zFU (0, sa, 0) = some q ∧ ((∀ j, 0 ≤ j → j ≤ m → q.2.1 j = qCt (qK0 k) j) ∧ q.2.2 = m) := by
    refine zlp_for (fun s : Int × (Int → Int) × Int => s.1) (lo := 0) (hi := m) (fun j s => (∀ i, 0 ≤ i → i ≤ j → s.2.1 i = qCt (qK0 k) i) ∧ s.2.2 = j) _ hm.1 (by omega) ?_ ?_ (0, sa, 0) rfl ⟨fun i i0 i1 => by rw [show i = 0 by omega, qCt_0]; exact hs, rfl⟩
    · intro s h0 h1 hR
      obtain ⟨j, a, c⟩ := s
      replace h0 : 0 ≤ j := h0
      replace h1 : j < m := h1
      obtain ⟨hR, hc2⟩ := hR
      replace hR : ∀ i, 0 ≤ i → i ≤ j → a i = qCt (qK0 k) i := hR
      replace hc2 : c = j := hc2
      subst hc2
      have hkj := hk c h0 h1
      have hex : f_X1_begin_L23 k x y o m br ba st w1 w2 0 c a c = some (.inl (c + 1, zup a (c + 1) (a c + qK0 k c), c + 1)) := by
        unfold f_X1_begin_L23 qK0
        rw [pE_told (by omega) (by omega), if_pos rfl]
        by_cases d : k c = 0
        · rw [if_pos d]
          simp (disch := omega) only [zck_t, if_pos, if_neg, zb1_e]
          unfold f_X1_begin_L23_59
          simp (disch := omega) only [zck_t, zlt]
        · rw [if_neg d]
          simp (disch := omega) only [zck_t, if_neg, zb1_e]
          unfold f_X1_begin_L23_59
          simp (disch := omega) only [zck_t, zlt]
      refine ⟨_, hex, rfl, ?_, rfl⟩
      intro i i0 i1
      show zup a (c + 1) (a c + qK0 k c) i = _
      by_cases d : i = c + 1
      · rw [d, zup_s, qCt_s h0, hR c h0 (Int.le_refl _)]
      · rw [zup_n d, hR i i0 (by replace i1 : i ≤ c + 1 := i1; omega)]
    · intro s h0 hR
      obtain ⟨j, a, c⟩ := s
      replace h0 : j = m := h0
      refine ⟨(j, a, c), ?_, hR⟩
      show f_X1_begin_L23 k x y o m br ba st w1 w2 0 j a c = _
      unfold f_X1_begin_L23
      simp (disch := omega) only [zck_t, if_pos]
  obtain ⟨⟨j1, sa', c1⟩, e1, g1, g2⟩ := H1
  replace g1 : ∀ j, 0 ≤ j → j ≤ m → sa' j = qCt (qK0 k) j := g1
  replace g2 : c1 = m := g2
  subst g2
  have H2 : ∃ q, zlp (fun z => f_X1_begin_L97 k x y o c1 sa' w1 w2 c1 0 z.1 z.2.1 z.2.2.1 z.2.2.2) zFU (0, br, ba, st) = some q ∧ (∀ h, 0 ≤ h → h < 4 → q.2.1 h = 0 ∧ q.2.2.2 h = 0) := by
    refine zlp_for (fun s : Int × (Int → Int) × (Int → Int) × (Int → Int) => s.1) (lo := 0) (hi := 4) (fun j s => ∀ h, 0 ≤ h → h < j → s.2.1 h = 0 ∧ s.2.2.2 h = 0) _ (by decide) (by decide) ?_ ?_ (0, br, ba, st) rfl (fun h a b => by omega)
    · intro s h0 h1 hR
      obtain ⟨j, a, b, c⟩ := s
      replace h0 : 0 ≤ j := h0
      replace h1 : j < 4 := h1
      replace hR : ∀ h, 0 ≤ h → h < j → a h = 0 ∧ c h = 0 := hR
      refine ⟨(j + 1, zup a j 0, zup b j 0, zup c j 0), ?_, rfl, fun h g0 g1 => ?_⟩
      · show f_X1_begin_L97 k x y o c1 sa' w1 w2 c1 0 j a b c = _
        unfold f_X1_begin_L97
        simp (disch := omega) only [zck_t, if_neg, zlt]
      · show zup a j 0 h = 0 ∧ zup c j 0 h = 0
        replace g1 : h < j + 1 := g1
        by_cases d : h = j
        · rw [d, zup_s, zup_s]
          exact ⟨rfl, rfl⟩
        · rw [zup_n d, zup_n d]
          exact hR h g0 (by omega)
    · intro s h0 hR
      obtain ⟨j, a, b, c⟩ := s
      replace h0 : j = 4 := h0
      refine ⟨(j, a, b, c), ?_, hR⟩
      show f_X1_begin_L97 k x y o c1 sa' w1 w2 c1 0 j a b c = _
      unfold f_X1_begin_L97
      simp (disch := omega) only [zck_t, if_pos]
  obtain ⟨⟨j2, a2, b2, d2⟩, e2, g3⟩ := H2
  refine ⟨sa', a2, b2, d2, ?_, g1, g3⟩
  unfold f_X1_begin
  rw [e1]
  show f_X1_begin_94 k x y o c1 sa' br ba st w1 w2 c1 0 = _
  unfold f_X1_begin_94
  rw [e2]
  rfl
theorem pL_start {bd pl m nx ny now np mcc kn nc mnx mny thr rY n w1 w2 hc lc qm qp he hl rn pg B : Int} {sec : UInt32} {P : Int → List (Int × Int)} {w la co cl cc de le sh pu un dr sz cn k x y o kc th mcol mla mic mco mcX mcY mde mlo msh mpu mhu sewn pX pY mcr mk mx my mo sa br ba ss ki bk sw : Int → Int} {fx fy cr xs ys : Int → Int → Int} (hS : qSt n bd la co cl cc fx fy de le sh pu un mcol mla mic mco mcX mcY mde mlo msh mpu mhu) (hP : P = qPF cl cc fx fy de le sh pu un) (hC : qCl n la co P bd pl dr xs ys sz k x y o kc th m sec) (hM : qMl n la co P bd kn mk mx my mo nc) (hK : qMc sa br ba ss hc lc qm qp he hl rn pg ki bk sw B) (hBB : 0 ≤ B) (hw : zR w1 ∧ zR w2) :
    ∃ (w' : Int → Int) (pl' : Int) (cr' : Int → Int → Int) (cn' dr' : Int → Int) (xs' ys' : Int → Int → Int) (sz' k' x' y' o' kc' th' : Int → Int) (m' : Int) (sec' : UInt32) (nx' ny' now' : Int) (sa' br' ba' ss' : Int → Int) (hc' lc' qm' qp' : Int) (pX' pY' : Int → Int) (np' : Int) (mcr' : Int → Int) (mcc' kn' nc' : Int) (mk' mx' my' mo' : Int → Int) (mnx' mny' : Int) (sewn' : Int → Int) (he' hl' rn' pg' : Int) (ki' bk' sw' : Int → Int) (thr' rY' : Int), f_law_start w bd pl co la cl fx fy cr cc cn de le sh pu un dr xs ys sz k x y o kc th m sec nx ny now sa br ba ss hc lc qm qp n mcol mla mic mco mcX mcY mde mlo msh mpu mhu bd pX pY np mcr mcc kn nc mk mx my mo mnx mny sewn he hl rn pg ki bk sw thr rY n w1 w2 = some (w', pl', cr', cn', dr', xs', ys', sz', k', x', y', o', kc', th', m', sec', nx', ny', now', sa', br', ba', ss', hc', lc', qm', qp', pX', pY', np', mcr', mcc', kn', nc', mk', mx', my', mo', mnx', mny', sewn', he', hl', rn', pg', ki', bk', sw', thr', rY') ∧ qCl n la co P bd pl' dr' xs' ys' sz' k' x' y' o' kc' th' m' sec' ∧ qMl n la co P bd kn' mk' mx' my' mo' nc' ∧ qMc sa' br' ba' ss' hc' lc' qm' qp' he' hl' rn' pg' ki' bk' sw' (B + 1) := by
  have hK1 : qMc sa br ba ss hc lc qm qp he hl rn pg ki bk sw (B + 1) := by
    obtain ⟨a1, a2, a3, a4, a5, a6, a7⟩ := hK
    refine ⟨a1, a2, a3, a4, a5, a6, fun g g0 g1 => ?_⟩
    obtain ⟨⟨t1, t2, t3⟩, t4⟩ := a7 g g0 g1
    exact ⟨⟨t1, by omega, by omega⟩, t4⟩
  by_cases c1 : 1 ≤ w1 ∧ w1 ≤ 4
  · by_cases c2 : 0 ≤ w2 ∧ w2 ≤ 20
    · obtain ⟨C, w', cr', cn', dr', xs', ys', sz', k', x', y', o', kc', th', m', sec', nx', ny', now', pX', pY', np', mcr', mcc', nc', mk', mx', my', mo', mnx', mny', sewn', rY', e1, e2, ⟨b1, b2, b3, b4⟩, hpr, hcm, hC', hM'⟩ := pR_both (w := w) (cn := cn) (cr := cr) (nx := nx) (ny := ny) (now := now) (pX := pX) (pY := pY) (np := np) (mcr := mcr) (mcc := mcc) (rY := rY) (mnx := mnx) (mny := mny) (sewn := sewn) hS hP hC hM
      have h1 := hpr.1.1
      have h2 := hcm.1
      have hmm : nc' = m' := by omega
      subst hmm
      have hsame := (qRow_same hpr.1 hcm).2
      have hkk : ∀ j, 0 ≤ j → j < nc' → k' j = mk' j ∧ 0 ≤ mk' j ∧ mk' j ≤ 4 := by
        intro j j0 j1
        have hs1 : k' j = mk' j := congrArg Prod.fst (hsame j j0 j1)
        have f1 : 0 ≤ mk' j ∧ mk' j ≤ 4 := (b3 _ (qRow_mem hcm (i := j) j0 j1)).1
        exact ⟨hs1, f1⟩
      have hBb : sa 0 = 0 := by
        obtain ⟨_, _, ⟨_, a3⟩, _, a5, _⟩ := hK
        rw [a5 0 (Int.le_refl _) a3.1, qCt_0]
      obtain ⟨sa', br', ba', ss', e3, g1, g2⟩ := pE_begin (k := k') (x := x') (y := y') (o := o') (m := nc') (hc := hc) (lc := lc) (w1 := w1) (w2 := w2) (br := br) (ba := ba) (st := ss) (la := lc) (cc := qm) (pl := qp) (show 0 ≤ nc' ∧ nc' ≤ 16641 by omega) (fun j j0 j1 => by have := hkk j j0 j1; omega) hBb
      have H1 : ∃ q, zlp (fun z => f_X7_start_L61 n mcol mla mic mco mcX mcY mde mlo msh mpu mhu bd pX' pY' np' mcr' mcc' 1 nc' mk' mx' my' mo' mnx' mny' sewn' w1 w2 0 nc' bk sw 0 rY' z.1 z.2) zFU (0, ki) = some q ∧ (∀ j, 0 ≤ j → j < nc' → q.2 j = mk' j) := by
        refine zlp_for (fun s : Int × (Int → Int) => s.1) (lo := 0) (hi := nc') (fun j s => ∀ i, 0 ≤ i → i < j → s.2 i = mk' i) _ (by omega) (by omega) ?_ ?_ (0, ki) rfl (fun i a b => by omega)
        · intro s h0 h1 hR
          obtain ⟨j, a⟩ := s
          replace h0 : 0 ≤ j := h0
          replace h1 : j < nc' := h1
          replace hR : ∀ i, 0 ≤ i → i < j → a i = mk' i := hR
          refine ⟨(j + 1, zup a j (mk' j)), ?_, rfl, fun i i0 i1 => ?_⟩
          · show f_X7_start_L61 n mcol mla mic mco mcX mcY mde mlo msh mpu mhu bd pX' pY' np' mcr' mcc' 1 nc' mk' mx' my' mo' mnx' mny' sewn' w1 w2 0 nc' bk sw 0 rY' j a = _
            unfold f_X7_start_L61
            simp (disch := omega) only [zck_t, if_neg, zlt]
          · show zup a j (mk' j) i = mk' i
            replace i1 : i < j + 1 := i1
            by_cases d : i = j
            · rw [d, zup_s]
            · rw [zup_n d]
              exact hR i i0 (by omega)
        · intro s h0 hR
          obtain ⟨j, a⟩ := s
          replace h0 : j = nc' := h0
          refine ⟨(j, a), ?_, hR⟩
          show f_X7_start_L61 n mcol mla mic mco mcX mcY mde mlo msh mpu mhu bd pX' pY' np' mcr' mcc' 1 nc' mk' mx' my' mo' mnx' mny' sewn' w1 w2 0 nc' bk sw 0 rY' j a = _
          unfold f_X7_start_L61
          simp (disch := omega) only [zck_t, if_pos]
      obtain ⟨⟨j3, ki'⟩, e4, g3⟩ := H1
      replace g3 : ∀ j, 0 ≤ j → j < nc' → ki' j = mk' j := g3
      have H2 : ∃ q, zlp (fun z => f_X7_start_L89 n mcol mla mic mco mcX mcY mde mlo msh mpu mhu bd pX' pY' np' mcr' mcc' 1 nc' mk' mx' my' mo' mnx' mny' sewn' w1 w2 0 nc' ki' 0 rY' z.1 z.2.1 z.2.2) zFU (0, bk, sw) = some q ∧ (∀ h, 0 ≤ h → h < 4 → q.2.1 h = -1 ∧ q.2.2 h = 0) := by
        refine zlp_for (fun s : Int × (Int → Int) × (Int → Int) => s.1) (lo := 0) (hi := 4) (fun j s => ∀ h, 0 ≤ h → h < j → s.2.1 h = -1 ∧ s.2.2 h = 0) _ (by decide) (by decide) ?_ ?_ (0, bk, sw) rfl (fun i a b => by omega)
        · intro s h0 h1 hR
          obtain ⟨j, a, b⟩ := s
          replace h0 : 0 ≤ j := h0
          replace h1 : j < 4 := h1
          replace hR : ∀ h, 0 ≤ h → h < j → a h = -1 ∧ b h = 0 := hR
          refine ⟨(j + 1, zup a j (-1), zup b j 0), ?_, rfl, fun i i0 i1 => ?_⟩
          · show f_X7_start_L89 n mcol mla mic mco mcX mcY mde mlo msh mpu mhu bd pX' pY' np' mcr' mcc' 1 nc' mk' mx' my' mo' mnx' mny' sewn' w1 w2 0 nc' ki' 0 rY' j a b = _
            unfold f_X7_start_L89
            simp (disch := omega) only [zck_t, if_neg, zlt]
          · show zup a j (-1) i = -1 ∧ zup b j 0 i = 0
            replace i1 : i < j + 1 := i1
            by_cases d : i = j
            · rw [d, zup_s, zup_s]
              exact ⟨rfl, rfl⟩
            · rw [zup_n d, zup_n d]
              exact hR i i0 (by omega)
        · intro s h0 hR
          obtain ⟨j, a, b⟩ := s
          replace h0 : j = 4 := h0
          refine ⟨(j, a, b), ?_, hR⟩
          show f_X7_start_L89 n mcol mla mic mco mcX mcY mde mlo msh mpu mhu bd pX' pY' np' mcr' mcc' 1 nc' mk' mx' my' mo' mnx' mny' sewn' w1 w2 0 nc' ki' 0 rY' j a b = _
          unfold f_X7_start_L89
          simp (disch := omega) only [zck_t, if_pos]
      obtain ⟨⟨j4, bk', sw'⟩, e5, g4⟩ := H2
      replace g4 : ∀ h, 0 ≤ h → h < 4 → bk' h = -1 ∧ sw' h = 0 := g4
      have hB0 : 0 ≤ w1 ∧ w1 ≤ 4 := by omega
      refine ⟨w', 1, cr', cn', dr', xs', ys', sz', k', x', y', o', kc', th', nc', sec', nx', ny', now', sa', br', ba', ss', w1, w2, nc', 0, pX', pY', np', mcr', mcc', 1, nc', mk', mx', my', mo', mnx', mny', sewn', w1, w2, 0, nc', ki', bk', sw', 0, rY', ?_, hC', hM', ?_⟩
      · unfold f_law_start f_L_start f_X6_start f_X7_start f_X7_start_25 f_X7_thrown
        rw [pE_in (by omega), pE_in (by omega), pE_within (by omega), pE_within (by omega), e1, e2]
        simp (disch := omega) only [zck_t, if_pos, if_neg, if_true, if_false, not_true_eq_false, zb1_e, zb2_e, zb19_e, zb15_e, pE_asks1]
        rw [e3, e4]
        simp only [zb2_e]
        rw [e5]
        simp (disch := omega) only [zck_t, if_pos, if_true, if_false, not_true_eq_false, zb1_e, zb2_e, zb3_e, zb8_e, zb23_e, zb28_e]
      · refine ⟨⟨rfl, hB0⟩, ⟨rfl, c2⟩, ⟨rfl, by omega, by omega⟩, ⟨rfl, Int.le_refl _, by omega⟩, ?_, ?_, ?_⟩
        · intro j j0 j1
          rw [g1 j j0 j1]
          have := qCt_congr (a := qK0 k') (b := qK0 ki') j.toNat (fun v v0 v1 => by
            have q1 := (hkk v v0 (by omega)).1
            have q2 := g3 v v0 (by omega)
            unfold qK0
            rw [q1, q2])
          rw [show ((j.toNat : Nat) : Int) = j by omega] at this
          exact this
        · intro j j0 j1
          rw [g3 j j0 j1]
          exact (hkk j j0 j1).2
        · intro g g0 g1
          have q1 := g2 g g0 (by omega)
          have q2 := g4 g g0 (by omega)
          have hBn : -(B + 1) ≤ 0 ∧ 0 ≤ B + 1 := by omega
          exact ⟨⟨by rw [q1.2, q2.2], by rw [q2.2]; exact hBn.1, by rw [q2.2]; exact hBn.2⟩, Or.inl ⟨q1.1, q2.1⟩⟩
    · refine ⟨w, pl, cr, cn, dr, xs, ys, sz, k, x, y, o, kc, th, m, sec, nx, ny, now, sa, br, ba, ss, hc, lc, qm, qp, pX, pY, np, mcr, mcc, kn, nc, mk, mx, my, mo, mnx, mny, sewn, he, hl, rn, pg, ki, bk, sw, 1, rY, ?_, hC, hM, hK1⟩
      unfold f_law_start f_L_start f_X6_start f_X7_start f_X7_start_24 f_X7_start_25 f_X7_thrown
      rw [pE_in (by omega), pE_in (by omega), pE_within (by omega), pE_within (by omega)]
      simp (disch := omega) only [zck_t, if_pos, if_neg, if_true, if_false, not_true_eq_false, not_false_eq_true, zb1_e, zb2_e, zb23_e, zb28_e, pE_asks0]
  · refine ⟨w, pl, cr, cn, dr, xs, ys, sz, k, x, y, o, kc, th, m, sec, nx, ny, now, sa, br, ba, ss, hc, lc, qm, qp, pX, pY, np, mcr, mcc, kn, nc, mk, mx, my, mo, mnx, mny, sewn, he, hl, rn, pg, ki, bk, sw, 1, rY, ?_, hC, hM, hK1⟩
    unfold f_law_start f_L_start f_X6_start f_X7_start f_X7_start_24 f_X7_start_25 f_X7_thrown
    rw [pE_in (by omega), pE_within (by omega)]
    simp (disch := omega) only [zck_t, if_pos, if_neg, if_true, if_false, not_true_eq_false, not_false_eq_true, zb1_e, zb2_e, zb23_e, zb28_e, pE_asks0]
