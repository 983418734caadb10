/-! ===== the fields: sew, corner, scale, bound, field ===== -/
def qZ (n : Int) (mco msh mpu mhu : Int → Int) : Prop := ∀ i, n ≤ i → i < 8 → mco i = 0 ∧ msh i = 0 ∧ mpu i = 0 ∧ mhu i = 0
def qA (n bd : Int) (la co cl cc : Int → Int) (fx fy : Int → Int → Int) (de le sh pu un mcol mla mic mco mcX mcY mde mlo msh mpu mhu : Int → Int) (pl : Int) (dr : Int → Int) (xs ys : Int → Int → Int) (sz k x y o kc th : Int → Int) (m : Int) (sec : UInt32) (kn : Int) (mk mx my mo : Int → Int) (nc : Int) : Prop := qSt n bd la co cl cc fx fy de le sh pu un mcol mla mic mco mcX mcY mde mlo msh mpu mhu ∧ qZ n mco msh mpu mhu ∧ qCl n la co (qPF cl cc fx fy de le sh pu un) bd pl dr xs ys sz k x y o kc th m sec ∧ qMl n la co (qPF cl cc fx fy de le sh pu un) bd kn mk mx my mo nc
theorem qDr_ch {n f : Int} {P P' : Int → List (Int × Int)} {dr sz : Int → Int} {xs ys : Int → Int → Int} (h : qDr n P dr xs ys sz) (hP : ∀ i, 0 ≤ i → i < n → i ≠ f → P' i = P i) : qDr n P' (zup dr f 0) xs ys sz := by
  intro i i0 i1
  by_cases c : i = f
  · subst c
    rw [zup_s]
    exact ⟨Or.inl rfl, fun z => absurd z (by decide)⟩
  · rw [zup_n c, hP i i0 i1 c]
    exact h i i0 i1
theorem pS_sew {n pl kn t w1 w2 w3 w4 w5 w6 : Int} {de le sh pu un dr mde mle msh mpu mun : Int → Int} (hn : 0 ≤ n ∧ n ≤ 8) (hw : zR w1 ∧ zR w2 ∧ zR w3 ∧ zR w4 ∧ zR w5) : (∃ u, f_law_sew n pl de le sh pu un dr n mde mle msh mpu mun kn t n w1 w2 w3 w4 w5 w6 = some (pl, de, le, sh, pu, un, dr, mde, mle, msh, mpu, mun, kn, u)) ∨ (∃ q u, f_law_sew n pl de le sh pu un dr n mde mle msh mpu mun kn t n w1 w2 w3 w4 w5 w6 = some (0, zup de w1 w2, zup le w1 w3, zup sh w1 w4, zup pu w1 w5, zup un w1 q, zup dr w1 0, zup mde w1 w2, zup mle w1 w3, zup msh w1 w4, zup mpu w1 w5, zup mun w1 q, 0, u) ∧ (0 ≤ w1 ∧ w1 < n) ∧ (1 ≤ w2 ∧ w2 ≤ 8) ∧ (1 ≤ w3 ∧ w3 ≤ 12) ∧ (0 ≤ w4 ∧ w4 ≤ 11) ∧ (0 ≤ w5 ∧ w5 ≤ 3) ∧ (q = 0 ∨ q = 1)) := by
  have hq : (if w6 = 0 then (0 : Int) else 1) = 0 ∨ (if w6 = 0 then (0 : Int) else 1) = 1 := by split <;> omega
  unfold f_law_sew
  generalize (if w6 = 0 then (0 : Int) else 1) = q at hq ⊢
  unfold f_L_sew f_X6_sew f_X7_sew f_X7_thrown f_X7_sew_54 f_X0_settle
  rw [pE_isField hn (by omega), pE_numbered hn (by omega), pE_in (by omega), pE_in (by omega), pE_in (by omega), pE_in (by omega), pE_within (by omega), pE_within (by omega), pE_within (by omega), pE_within (by omega)]
  by_cases c1 : 0 ≤ w1 ∧ w1 ≤ n - 1
  · by_cases c2 : 1 ≤ w2 ∧ w2 ≤ 8
    · by_cases c3 : 1 ≤ w3 ∧ w3 ≤ 12
      · by_cases c4 : 0 ≤ w4 ∧ w4 ≤ 11
        · by_cases c5 : 0 ≤ w5 ∧ w5 ≤ 3
          · refine Or.inr ⟨q, 0, ?_, by omega, c2, c3, c4, c5, hq⟩
            simp (disch := omega) only [zck_t, if_pos, if_neg, if_true, if_false, not_true_eq_false, not_false_eq_true, zb1_e, zb2_e, zb6_e, zb7_e, zb8_e, zlt, pE_asks1]
          · refine Or.inl ⟨2, ?_⟩
            simp (disch := omega) only [zck_t, if_pos, if_neg, if_true, if_false, not_true_eq_false, not_false_eq_true, zb1_e, zb2_e, zb7_e, zb8_e, pE_asks1]
        · refine Or.inl ⟨2, ?_⟩
          simp (disch := omega) only [zck_t, if_pos, if_neg, if_true, if_false, not_true_eq_false, not_false_eq_true, zb1_e, zb2_e, zb7_e, zb8_e, pE_asks1]
      · refine Or.inl ⟨2, ?_⟩
        simp (disch := omega) only [zck_t, if_pos, if_neg, if_true, if_false, not_true_eq_false, not_false_eq_true, zb1_e, zb2_e, zb7_e, zb8_e, pE_asks1]
    · refine Or.inl ⟨2, ?_⟩
      simp (disch := omega) only [zck_t, if_pos, if_neg, if_true, if_false, not_true_eq_false, not_false_eq_true, zb1_e, zb2_e, zb7_e, zb8_e, pE_asks1]
  · refine Or.inl ⟨1, ?_⟩
    simp (disch := omega) only [zck_t, if_pos, if_neg, if_true, if_false, not_true_eq_false, not_false_eq_true, zb1_e, zb2_e, zb7_e, zb8_e, pE_asks0]
theorem pA_sew {n bd pl kn m nc t w1 w2 w3 w4 w5 w6 : Int} {sec : UInt32} {la co cl cc de le sh pu un mcol mla mic mco mcX mcY mde mlo msh mpu mhu dr sz k x y o kc th mk mx my mo : Int → Int} {fx fy xs ys : Int → Int → Int} (hA : qA n bd la co cl cc fx fy de le sh pu un mcol mla mic mco mcX mcY mde mlo msh mpu mhu pl dr xs ys sz k x y o kc th m sec kn mk mx my mo nc) (hw : zR w1 ∧ zR w2 ∧ zR w3 ∧ zR w4 ∧ zR w5) : ∃ pl' de' le' sh' pu' un' dr' mde' mlo' msh' mpu' mhu' kn' u, f_law_sew n pl de le sh pu un dr n mde mlo msh mpu mhu kn t n w1 w2 w3 w4 w5 w6 = some (pl', de', le', sh', pu', un', dr', mde', mlo', msh', mpu', mhu', kn', u) ∧ qA n bd la co cl cc fx fy de' le' sh' pu' un' mcol mla mic mco mcX mcY mde' mlo' msh' mpu' mhu' pl' dr' xs ys sz k x y o kc th m sec kn' mk mx my mo nc := by
  have hA0 := hA
  obtain ⟨⟨s1, s2, s3, s4⟩, hz, ⟨hD, -⟩, -⟩ := hA
  rcases pS_sew (pl := pl) (kn := kn) (t := t) (de := de) (le := le) (sh := sh) (pu := pu) (un := un) (dr := dr) (mde := mde) (mle := mlo) (msh := msh) (mpu := mpu) (mun := mhu) (w6 := w6) s1.1 hw with ⟨u, e⟩ | ⟨q, u, e, r1, r2, r3, r4, r5, r6⟩
  · exact ⟨pl, de, le, sh, pu, un, dr, mde, mlo, msh, mpu, mhu, kn, u, e, hA0⟩
  · refine ⟨_, _, _, _, _, _, _, _, _, _, _, _, _, _, e, ⟨s1, ?_, ?_, s4⟩, ?_, ⟨qDr_ch hD ?_, Or.inl rfl⟩, Or.inl rfl⟩
    · intro i i0 i1
      obtain ⟨f1, f2, f3, f4, f5, f6, f7, f8, f9⟩ := s2 i i0 i1
      by_cases c : i = w1
      · subst c
        rw [zup_s, zup_s, zup_s, zup_s, zup_s]
        exact ⟨f1, f2, f3, f4, r2, r3, r4, r5, r6⟩
      · rw [zup_n c, zup_n c, zup_n c, zup_n c, zup_n c]
        exact ⟨f1, f2, f3, f4, f5, f6, f7, f8, f9⟩
    · intro i i0 i1
      obtain ⟨f1, f2, f3, f4, f5, f6, f7, f8, f9⟩ := s3 i i0 i1
      by_cases c : i = w1
      · subst c
        rw [zup_s, zup_s, zup_s, zup_s, zup_s]
        exact ⟨f1, f2, f3, f4, zup_s, zup_s, zup_s, zup_s, zup_s⟩
      · rw [zup_n c, zup_n c, zup_n c, zup_n c, zup_n c]
        exact ⟨f1, f2, f3, f4, (zup_n c).trans f5, (zup_n c).trans f6, (zup_n c).trans f7, (zup_n c).trans f8, (zup_n c).trans f9⟩
    · intro i i0 i1
      obtain ⟨f1, f2, f3, f4⟩ := hz i i0 i1
      have c : i ≠ w1 := by omega
      exact ⟨f1, (zup_n c).trans f2, (zup_n c).trans f3, (zup_n c).trans f4⟩
    · intro i i0 i1 c
      show qPts _ _ _ _ _ _ _ _ _ = qPts _ _ _ _ _ _ _ _ _
      rw [zup_n c, zup_n c, zup_n c, zup_n c, zup_n c]
theorem pA_bound {n bd mbd pl kn m nc t out w1 : Int} {sec : UInt32} {la co cl cc de le sh pu un mcol mla mic mco mcX mcY mde mlo msh mpu mhu dr sz k x y o kc th mk mx my mo : Int → Int} {fx fy xs ys : Int → Int → Int} (hA : qA n bd la co cl cc fx fy de le sh pu un mcol mla mic mco mcX mcY mde mlo msh mpu mhu pl dr xs ys sz k x y o kc th m sec kn mk mx my mo nc) (hm : mbd = bd) (hw : zR w1) : ∃ bd' pl' kn' u out', f_law_bound bd pl mbd kn t out w1 = some (bd', pl', bd', kn', u, out') ∧ qA n bd' la co cl cc fx fy de le sh pu un mcol mla mic mco mcX mcY mde mlo msh mpu mhu pl' dr xs ys sz k x y o kc th m sec kn' mk mx my mo nc := by
  have hA0 := hA
  obtain ⟨⟨s1, s2, s3, s4⟩, hz, ⟨hD, -⟩, -⟩ := hA
  obtain ⟨b', pl', kn', u, o', e, hb, hc⟩ := pL_bound (pl := pl) (kn := kn) (t := t) (o := out) s4 hm hw
  refine ⟨b', pl', kn', u, o', e, ?_⟩
  rcases hc with ⟨q1, q2, q3⟩ | ⟨q1, q2⟩
  · subst q1
    subst q2
    subst q3
    exact hA0
  · subst q1
    subst q2
    exact ⟨⟨s1, s2, s3, hb⟩, hz, ⟨hD, Or.inl rfl⟩, Or.inl rfl⟩
theorem pE_full {col c : Int} (hcol : col = 0 ∨ col = 1) (hc : 0 ≤ c ∧ c ≤ 8) : f_X0_isFull col c = some (if c < (if col = 0 then 8 else 4) then 0 else 1) := by
  unfold f_X0_isFull f_X0_isFull_17
  rcases hcol with q | q
  · subst q
    rw [if_pos rfl, if_pos rfl]
    by_cases c1 : c < 8
    · simp (disch := omega) only [zck_t, if_pos]
    · simp (disch := omega) only [zck_t, if_neg]
  · subst q
    rw [if_neg (show ¬ (1 : Int) = 0 by decide), if_neg (show ¬ (1 : Int) = 0 by decide)]
    by_cases c1 : c < 4
    · simp (disch := omega) only [zck_t, if_pos]
    · simp (disch := omega) only [zck_t, if_neg]
theorem pA_corner {n bd pl kn m nc t out w1 w2 w3 : Int} {sec : UInt32} {la co cl cc de le sh pu un mcol mla mic mco mcX mcY mde mlo msh mpu mhu dr sz k x y o kc th mk mx my mo : Int → Int} {fx fy xs ys : Int → Int → Int} (hA : qA n bd la co cl cc fx fy de le sh pu un mcol mla mic mco mcX mcY mde mlo msh mpu mhu pl dr xs ys sz k x y o kc th m sec kn mk mx my mo nc) (hw : zR w1 ∧ zR w2 ∧ zR w3) : ∃ pl' fx' fy' cc' dr' mco' mcX' mcY' kn' u out', f_law_corner n pl cl fx fy cc dr n mic mco mcX mcY kn t out n w1 w2 w3 = some (pl', fx', fy', cc', dr', mco', mcX', mcY', kn', u, out') ∧ qA n bd la co cl cc' fx' fy' de le sh pu un mcol mla mic mco' mcX' mcY' mde mlo msh mpu mhu pl' dr' xs ys sz k x y o kc th m sec kn' mk mx my mo nc := by
  have hA0 := hA
  obtain ⟨⟨s1, s2, s3, s4⟩, hz, ⟨hD, -⟩, -⟩ := hA
  have hn := s1.1
  unfold f_law_corner f_L_corner f_X6_corner f_X7_corner f_X7_corner_34 f_X7_thrown
  rw [pE_isField hn (by omega), pE_numbered hn (by omega), pE_in (by omega), pE_in (by omega), pE_within (by omega), pE_within (by omega)]
  by_cases c1 : 0 ≤ w1 ∧ w1 ≤ n - 1
  · by_cases c2 : 0 ≤ w2 ∧ w2 ≤ 31
    · by_cases c3 : 0 ≤ w3 ∧ w3 ≤ 31
      · obtain ⟨f1, f2, f3, f4, f5⟩ := s2 w1 (by omega) (by omega)
        obtain ⟨m1, m2, ⟨m3, m4⟩, m5, m6⟩ := s3 w1 (by omega) (by omega)
        have hfull := pE_full f1 f2
        by_cases c4 : cc w1 < (if cl w1 = 0 then 8 else 4)
        · have hlt : cc w1 < 8 ∧ (cl w1 = 1 → cc w1 < 4) := by
            rcases f1 with q | q
            · rw [if_pos q] at c4
              exact ⟨c4, fun z => by omega⟩
            · rw [if_neg (by omega)] at c4
              exact ⟨by omega, fun _ => c4⟩
          have hput : f_X0_putCorner (fx w1) (fy w1) (cc w1) (dr w1) w2 w3 = some (zup (fx w1) (cc w1) w2, zup (fy w1) (cc w1) w3, cc w1 + 1, 0) := by
            unfold f_X0_putCorner f_X0_putCorner_44
            simp (disch := omega) only [zck_t, if_neg, zlt]
          have h61 : ∀ s1, s1 = (if cl w1 = 0 then (8 : Int) else 4) → f_X7_corner_61 n mic mco mcX mcY kn 0 w1 w2 w3 (mco w1) s1 = some (cc w1 + 1, zup mco w1 (cc w1 + 1), zup mcX (8 * w1 + cc w1) w2, zup mcY (8 * w1 + cc w1) w3, 0, 0) := by
            intro s1 hs
            rw [← hs] at c4
            unfold f_X7_corner_61
            rw [m3]
            have hs2 : s1 = 8 ∨ s1 = 4 := by rw [hs]; split <;> omega
            simp (disch := omega) only [zck_t, if_neg, zlt, zup_s]
          rw [if_pos c4] at hfull
          refine ⟨0, zup fx w1 (zup (fx w1) (cc w1) w2), zup fy w1 (zup (fy w1) (cc w1) w3), zup cc w1 (cc w1 + 1), zup dr w1 0, zup mco w1 (cc w1 + 1), zup mcX (8 * w1 + cc w1) w2, zup mcY (8 * w1 + cc w1) w3, 0, 0, cc w1 + 1, ?_, ⟨s1, ?_, ?_, s4⟩, ?_, ⟨qDr_ch hD ?_, Or.inl rfl⟩, Or.inl rfl⟩
          · have hmi : f_X7_corner n mic mco mcX mcY kn t w1 w2 w3 = some (cc w1 + 1, zup mco w1 (cc w1 + 1), zup mcX (8 * w1 + cc w1) w2, zup mcY (8 * w1 + cc w1) w3, 0, 0) := by
              unfold f_X7_corner
              rw [pE_isField hn (by omega), pE_in (by omega), pE_in (by omega)]
              rcases f1 with q | q
              · have e61 := h61 8 (by rw [if_pos q])
                simp (disch := omega) only [zck_t, if_pos, if_neg, if_true, zb1_e, zb2_e, pE_asks1, e61]
              · have e61 := h61 4 (by rw [if_neg (by omega)])
                simp (disch := omega) only [zck_t, if_pos, if_neg, zb1_e, zb2_e, pE_asks1, e61]
            unfold f_X7_corner f_X7_corner_34 at hmi
            rw [pE_isField hn (by omega), pE_in (by omega), pE_in (by omega)] at hmi
            rw [hmi]
            simp (disch := omega) only [zck_t, hfull, hput, if_pos, if_neg, if_true, if_false, not_true_eq_false, not_false_eq_true, zb1_e, zb2_e, zb4_e, zb6_e, zb7_e, zlt, zup_s]
          · intro i i0 i1
            by_cases c : i = w1
            · subst c
              rw [zup_s, zup_s, zup_s]
              refine ⟨f1, by omega, fun z => by have := hlt.2 z; omega, fun j j0 j1 => ?_, f5⟩
              by_cases d : j = cc i
              · rw [d, zup_s, zup_s]
                exact ⟨c2, c3⟩
              · rw [zup_n d, zup_n d]
                exact f4 j j0 (by omega)
            · rw [zup_n c, zup_n c, zup_n c]
              exact s2 i i0 i1
          · intro i i0 i1
            by_cases c : i = w1
            · subst c
              refine ⟨m1, m2, ⟨?_, ?_⟩, m5, m6⟩
              · rw [zup_s, zup_s]
              · rw [zup_s, zup_s, zup_s]
                intro j j0 j1
                by_cases d : j = cc i
                · rw [d, zup_s, zup_s, zup_s, zup_s]
                  exact ⟨rfl, rfl⟩
                · rw [zup_n d, zup_n d, zup_n (show 8 * i + j ≠ 8 * i + cc i by omega), zup_n (show 8 * i + j ≠ 8 * i + cc i by omega)]
                  exact m4 j j0 (by omega)
            · have g2 := (s2 i i0 i1).2.1
              obtain ⟨k1, k2, ⟨k3, k4⟩, k5, k6⟩ := s3 i i0 i1
              refine ⟨k1, k2, ⟨?_, ?_⟩, k5, k6⟩
              · rw [zup_n c, zup_n c]
                exact k3
              · rw [zup_n c, zup_n c, zup_n c]
                intro j j0 j1
                rw [zup_n (show 8 * i + j ≠ 8 * w1 + cc w1 by omega), zup_n (show 8 * i + j ≠ 8 * w1 + cc w1 by omega)]
                exact k4 j j0 j1
          · intro i i0 i1
            obtain ⟨g1, g2⟩ := hz i i0 i1
            exact ⟨(zup_n (show i ≠ w1 by omega)).trans g1, g2⟩
          · intro i i0 i1 c
            show qPts _ _ _ _ _ _ _ _ _ = qPts _ _ _ _ _ _ _ _ _
            rw [zup_n c, zup_n c, zup_n c]
        · refine ⟨pl, fx, fy, cc, dr, mco, mcX, mcY, kn, 3, out, ?_, hA0⟩
          rw [if_neg c4] at hfull
          unfold f_X7_corner_61
          rw [m3]
          rcases f1 with q | q
          · rw [if_pos q] at c4
            have h8 : cc w1 = 8 := by omega
            simp (disch := omega) only [zck_t, hfull, if_pos, if_neg, if_true, if_false, not_true_eq_false, not_false_eq_true, zb1_e, zb2_e, zb6_e, zb7_e, pE_asks1, pE_fails]
          · rw [if_neg (show ¬ cl w1 = 0 by omega)] at c4
            have h4 : cc w1 = 4 := by have := f3 q; omega
            simp (disch := omega) only [zck_t, hfull, if_pos, if_neg, if_true, if_false, not_true_eq_false, not_false_eq_true, zb1_e, zb2_e, zb6_e, zb7_e, pE_asks1, pE_fails]
      · refine ⟨pl, fx, fy, cc, dr, mco, mcX, mcY, kn, 2, out, ?_, hA0⟩
        simp (disch := omega) only [zck_t, if_pos, if_neg, if_true, if_false, not_true_eq_false, not_false_eq_true, zb1_e, zb2_e, zb6_e, zb7_e, pE_asks1, pE_fails]
    · refine ⟨pl, fx, fy, cc, dr, mco, mcX, mcY, kn, 2, out, ?_, hA0⟩
      simp (disch := omega) only [zck_t, if_pos, if_neg, if_true, if_false, not_true_eq_false, not_false_eq_true, zb1_e, zb2_e, zb6_e, zb7_e, pE_asks1, pE_fails]
  · refine ⟨pl, fx, fy, cc, dr, mco, mcX, mcY, kn, 1, out, ?_, hA0⟩
    simp (disch := omega) only [zck_t, if_pos, if_neg, if_true, if_false, not_true_eq_false, not_false_eq_true, zb1_e, zb2_e, zb6_e, zb7_e, pE_asks0]
