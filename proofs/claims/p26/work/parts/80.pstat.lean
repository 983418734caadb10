/-! ===== the fields: sew, corner, scale, bound, field ===== -/
def qZ (n : Int) (mco msh mpu mhu : Int → Int) : Prop := ∀ i, n ≤ i → i < 8 → mco i = 0 ∧ msh i = 0 ∧ mpu i = 0 ∧ mhu i = 0
def qA (n bd : Int) (la co cl cc : Int → Int) (fx fy : Int → Int → Int) (de le sh pu un mcol mla mic mco mcX mcY mde mlo msh mpu mhu : Int → Int) (pl : Int) (dr : Int → Int) (xs ys : Int → Int → Int) (sz k x y o kc th : Int → Int) (m : Int) (sec : UInt32) (kn : Int) (mk mx my mo : Int → Int) (nc : Int) : Prop := qSt n bd la co cl cc fx fy de le sh pu un mcol mla mic mco mcX mcY mde mlo msh mpu mhu ∧ qZ n mco msh mpu mhu ∧ qCl n la co (qPF cl cc fx fy de le sh pu un) bd pl dr xs ys sz k x y o kc th m sec ∧ qMl n la co (qPF cl cc fx fy de le sh pu un) bd kn mk mx my mo nc
theorem qDr_ch {n f : Int} {P P' : Int → List (Int × Int)} {dr sz : Int → Int} {xs ys : Int → Int → Int} (h : qDr n P dr xs ys sz) (hP : ∀ i, 0 ≤ i → i < n → i ≠ f → P' i = P i) : qDr n P' (zup dr f 0) xs ys sz := by
  intro i i0 i1
  by_cases c : i = f
  · subst c
    rw [zup_s]
    exact ⟨Or.inl rfl, fun z => absurd z (by decide)⟩
  · rw [zup_n c, hP i i0 i1 c]
    exact h i i0 i1
theorem pE_full {col c : Int} (hcol : col = 0 ∨ col = 1) (hc : 0 ≤ c ∧ c ≤ 8) : f_X0_isFull col c = some (if c < (if col = 0 then 8 else 4) then 0 else 1) := by
  unfold f_X0_isFull f_X0_isFull_17
  rcases hcol with q | q
  · subst q
    rw [if_pos rfl, if_pos rfl]
    by_cases c1 : c < 8
    · simp (disch := omega) only [zck_t, if_pos]
    · simp (disch := omega) only [zck_t, if_neg]
  · subst q
    rw [if_neg (show ¬ (1 : Int) = 0 by decide), if_neg (show ¬ (1 : Int) = 0 by decide)]
    by_cases c1 : c < 4
    · simp (disch := omega) only [zck_t, if_pos]
    · simp (disch := omega) only [zck_t, if_neg]
