/-- the five settings of the fields -/
abbrev pSet (n : Int) (de le sh pu un mde mle msh mpu mun : Int → Int) : Prop := pEq n 1 8 de mde ∧ pEq n 1 12 le mle ∧ pEq n 0 11 sh msh ∧ pEq n 0 3 pu mpu ∧ pEq n 0 1 un mun
/-- promise 4's comparison -/
theorem pL_sew {n pl kn t w1 w2 w3 w4 w5 w6 : Int} {de le sh pu un dr mde mle msh mpu mun : Int → Int} (hn : 0 ≤ n ∧ n ≤ 8) (hs : pSet n de le sh pu un mde mle msh mpu mun) (hw : zR w1 ∧ zR w2 ∧ zR w3 ∧ zR w4 ∧ zR w5) : ∃ pl' de' le' sh' pu' un' dr' mde' mle' msh' mpu' mun' kn' u, f_law_sew n pl de le sh pu un dr n mde mle msh mpu mun kn t n w1 w2 w3 w4 w5 w6 = some (pl', de', le', sh', pu', un', dr', mde', mle', msh', mpu', mun', kn', u) ∧ pSet n de' le' sh' pu' un' mde' mle' msh' mpu' mun' ∧ ((pl' = pl ∧ de' = de ∧ le' = le ∧ sh' = sh ∧ pu' = pu ∧ un' = un ∧ dr' = dr ∧ kn' = kn) ∨ (pl' = 0 ∧ kn' = 0 ∧ (0 ≤ w1 ∧ w1 < n) ∧ dr' = zup dr w1 0 ∧ ∀ i, i ≠ w1 → de' i = de i ∧ le' i = le i ∧ sh' i = sh i ∧ pu' i = pu i ∧ un' i = un i)) := by
  obtain ⟨s1, s2, s3, s4, s5⟩ := hs
  have hq : (if w6 = 0 then (0 : Int) else 1) = 0 ∨ (if w6 = 0 then (0 : Int) else 1) = 1 := by split <;> omega
  unfold f_law_sew
  generalize (if w6 = 0 then (0 : Int) else 1) = q at hq ⊢
  unfold f_L_sew f_X6_sew f_X7_sew f_X7_thrown f_X7_sew_54 f_X0_settle
  rw [pE_isField hn (by omega), pE_numbered hn (by omega), pE_in (by omega), pE_in (by omega), pE_in (by omega), pE_in (by omega), pE_within (by omega), pE_within (by omega), pE_within (by omega), pE_within (by omega)]
  by_cases c1 : 0 ≤ w1 ∧ w1 ≤ n - 1
  · by_cases c2 : 1 ≤ w2 ∧ w2 ≤ 8
    · by_cases c3 : 1 ≤ w3 ∧ w3 ≤ 12
      · by_cases c4 : 0 ≤ w4 ∧ w4 ≤ 11
        · by_cases c5 : 0 ≤ w5 ∧ w5 ≤ 3
          · refine ⟨0, zup de w1 w2, zup le w1 w3, zup sh w1 w4, zup pu w1 w5, zup un w1 q, zup dr w1 0, zup mde w1 w2, zup mle w1 w3, zup msh w1 w4, zup mpu w1 w5, zup mun w1 q, 0, 0, ?_, ⟨pEq_up s1 c2, pEq_up s2 c3, pEq_up s3 c4, pEq_up s4 c5, pEq_up s5 (by omega)⟩, Or.inr ⟨rfl, rfl, by omega, rfl, fun i hi => ⟨zup_n hi, zup_n hi, zup_n hi, zup_n hi, zup_n hi⟩⟩⟩
            simp (disch := omega) only [zck_t, if_pos, if_neg, if_true, if_false, not_true_eq_false, not_false_eq_true, zb1_e, zb2_e, zb6_e, zb7_e, zb8_e, zlt, pE_asks1]
          · refine ⟨pl, de, le, sh, pu, un, dr, mde, mle, msh, mpu, mun, kn, 2, ?_, ⟨s1, s2, s3, s4, s5⟩, Or.inl ⟨rfl, rfl, rfl, rfl, rfl, rfl, rfl, rfl⟩⟩
            simp (disch := omega) only [zck_t, if_pos, if_neg, if_true, if_false, not_true_eq_false, not_false_eq_true, zb1_e, zb2_e, zb7_e, zb8_e, pE_asks1]
        · refine ⟨pl, de, le, sh, pu, un, dr, mde, mle, msh, mpu, mun, kn, 2, ?_, ⟨s1, s2, s3, s4, s5⟩, Or.inl ⟨rfl, rfl, rfl, rfl, rfl, rfl, rfl, rfl⟩⟩
          simp (disch := omega) only [zck_t, if_pos, if_neg, if_true, if_false, not_true_eq_false, not_false_eq_true, zb1_e, zb2_e, zb7_e, zb8_e, pE_asks1]
      · refine ⟨pl, de, le, sh, pu, un, dr, mde, mle, msh, mpu, mun, kn, 2, ?_, ⟨s1, s2, s3, s4, s5⟩, Or.inl ⟨rfl, rfl, rfl, rfl, rfl, rfl, rfl, rfl⟩⟩
        simp (disch := omega) only [zck_t, if_pos, if_neg, if_true, if_false, not_true_eq_false, not_false_eq_true, zb1_e, zb2_e, zb7_e, zb8_e, pE_asks1]
    · refine ⟨pl, de, le, sh, pu, un, dr, mde, mle, msh, mpu, mun, kn, 2, ?_, ⟨s1, s2, s3, s4, s5⟩, Or.inl ⟨rfl, rfl, rfl, rfl, rfl, rfl, rfl, rfl⟩⟩
      simp (disch := omega) only [zck_t, if_pos, if_neg, if_true, if_false, not_true_eq_false, not_false_eq_true, zb1_e, zb2_e, zb7_e, zb8_e, pE_asks1]
  · refine ⟨pl, de, le, sh, pu, un, dr, mde, mle, msh, mpu, mun, kn, 1, ?_, ⟨s1, s2, s3, s4, s5⟩, Or.inl ⟨rfl, rfl, rfl, rfl, rfl, rfl, rfl, rfl⟩⟩
    simp (disch := omega) only [zck_t, if_pos, if_neg, if_true, if_false, not_true_eq_false, not_false_eq_true, zb1_e, zb2_e, zb7_e, zb8_e, pE_asks0]
