theorem pE_in {p a b : Int} (h : zR p ∧ zR a ∧ zR b) : f_X7_in p a b = some (if a ≤ p ∧ p ≤ b then 1 else 0) := by
  unfold f_X7_in
  by_cases h1 : p < a
  · simp (disch := omega) only [zck_t, if_pos, if_neg]
  · by_cases h2 : b < p
    · simp (disch := omega) only [zck_t, if_pos, if_neg]
    · simp (disch := omega) only [zck_t, if_pos, if_neg]
theorem pE_within {p a b : Int} (h : zR p ∧ zR a ∧ zR b) : f_X6_isWithin p a b = some (if a ≤ p ∧ p ≤ b then 1 else 0) := by
  unfold f_X6_isWithin
  by_cases h1 : p < a
  · simp (disch := omega) only [zck_t, if_pos, if_neg]
  · by_cases h2 : b < p
    · simp (disch := omega) only [zck_t, if_pos, if_neg]
    · simp (disch := omega) only [zck_t, if_pos, if_neg]
theorem pE_asks0 {t : Int} : f_X7_asks t 0 = some (0, 1) := rfl
theorem pE_asks1 {t : Int} : f_X7_asks t 1 = some (1, 0) := rfl
/-- promise 15's comparison -/
theorem pL_byteAt {pb mb : Int → Int} {n ml t o w : Int} (hn : 0 ≤ n ∧ n ≤ 49924) (hm : ml = n) (hb : ∀ j, 0 ≤ j → j < n → pb j = mb j ∧ 0 ≤ mb j ∧ mb j ≤ 255) (ho : zR o) (hw : zR w) : ∃ u o', f_law_byteAt pb n ml mb t o w = some (u, o') ∧ zR o' := by
  subst hm
  unfold f_law_byteAt f_L_byteAt f_X6_byteAt f_X7_byteAt f_X7_thrown f_X2_has
  rw [pE_in (by omega)]
  by_cases h1 : 0 ≤ w ∧ w ≤ ml - 1
  · obtain ⟨e1, e2, e3⟩ := hb w (by omega) (by omega)
    refine ⟨0, mb w, ?_, by omega⟩
    simp (disch := omega) only [zck_t, if_pos, if_neg, if_true, if_false, not_true_eq_false, not_false_eq_true, zb1_e, zb2_e, pE_asks1, e1]
  · refine ⟨1, o, ?_, ho⟩
    by_cases h2 : w < 0
    · simp (disch := omega) only [zck_t, if_pos, if_neg, if_true, if_false, not_true_eq_false, not_false_eq_true, zb1_e, zb2_e, pE_asks0]
    · simp (disch := omega) only [zck_t, if_pos, if_neg, if_true, if_false, not_true_eq_false, not_false_eq_true, zb1_e, zb2_e, pE_asks0]
