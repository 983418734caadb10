theorem pE_within {p a b : Int} (h : zR p ∧ zR a ∧ zR b) : f_X6_isWithin p a b = some (if a ≤ p ∧ p ≤ b then 1 else 0) := by
  unfold f_X6_isWithin
  by_cases h1 : p < a
  · simp (disch := omega) only [zck_t, if_pos, if_neg]
  · by_cases h2 : b < p
    · simp (disch := omega) only [zck_t, if_pos, if_neg]
    · simp (disch := omega) only [zck_t, if_pos, if_neg]
