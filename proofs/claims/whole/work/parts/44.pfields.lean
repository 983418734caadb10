/-- an attribute of the fields, as the class and as the model hold it -/
abbrev pEq (n lo hi : Int) (a b : Int → Int) : Prop := ∀ i, 0 ≤ i → i < n → a i = b i ∧ lo ≤ b i ∧ b i ≤ hi
theorem pEq_up {n lo hi : Int} {a b : Int → Int} (h : pEq n lo hi a b) {k v : Int} (hv : lo ≤ v ∧ v ≤ hi) : pEq n lo hi (zup a k v) (zup b k v) := by
  intro i h0 h1
  by_cases q : i = k
  · subst q
    rw [zup_s, zup_s]
    exact ⟨rfl, hv⟩
  · rw [zup_n q, zup_n q]
    exact h i h0 h1
theorem pE_isField {n p : Int} (hn : 0 ≤ n ∧ n ≤ 8) (hp : zR p) : f_X7_isField n p = some (if 0 ≤ p ∧ p ≤ n - 1 then 1 else 0) := by
  unfold f_X7_isField
  rw [pE_in (by omega)]
  by_cases h : 0 ≤ p ∧ p ≤ n - 1
  · rw [if_pos h]; rfl
  · rw [if_neg h]; rfl
theorem pE_numbered {n p : Int} (hn : 0 ≤ n ∧ n ≤ 8) (hp : zR p) : f_X6_fieldNumbered n n p = some (if 0 ≤ p ∧ p ≤ n - 1 then (0, p) else (3, 0)) := by
  unfold f_X6_fieldNumbered
  by_cases h : 0 ≤ p ∧ p ≤ n - 1
  · simp (disch := omega) only [zck_t, if_pos, if_neg]
  · by_cases h2 : p < 0
    · simp (disch := omega) only [zck_t, if_pos, if_neg]
    · simp (disch := omega) only [zck_t, if_pos, if_neg]
/-- promise 6's comparison -/
theorem pL_bound {b pl mb kn t o w : Int} (hb : 0 ≤ b ∧ b ≤ 100) (hm : mb = b) (hw : zR w) : ∃ b' pl' kn' u o', f_law_bound b pl mb kn t o w = some (b', pl', b', kn', u, o') ∧ (0 ≤ b' ∧ b' ≤ 100) ∧ ((b' = b ∧ pl' = pl ∧ kn' = kn) ∨ (pl' = 0 ∧ kn' = 0)) := by
  subst hm
  unfold f_law_bound f_L_bound f_X6_bound f_X7_bound f_X7_thrown
  rw [pE_in (by omega), pE_within (by omega)]
  by_cases c1 : 0 ≤ w ∧ w ≤ 100
  · refine ⟨w, 0, 0, 0, mb, ?_, c1, Or.inr ⟨rfl, rfl⟩⟩
    simp (disch := omega) only [zck_t, if_pos, if_neg, if_true, if_false, not_true_eq_false, not_false_eq_true, zb1_e, zb2_e, zb4_e, pE_asks1]
  · refine ⟨mb, pl, kn, 1, o, ?_, hb, Or.inl ⟨rfl, rfl, rfl⟩⟩
    simp (disch := omega) only [zck_t, if_pos, if_neg, if_true, if_false, not_true_eq_false, not_false_eq_true, zb1_e, zb2_e, zb4_e, pE_asks0]
