/-- an attribute of the fields, as the class and as the model hold it -/
abbrev pEq (n lo hi : Int) (a b : Int → Int) : Prop := ∀ i, 0 ≤ i → i < n → a i = b i ∧ lo ≤ b i ∧ b i ≤ hi
theorem pEq_up {n lo hi : Int} {a b : Int → Int} (h : pEq n lo hi a b) {k v : Int} (hv : lo ≤ v ∧ v ≤ hi) : pEq n lo hi (zup a k v) (zup b k v) := by
  intro i h0 h1
  by_cases q : i = k
  · subst q
    rw [zup_s, zup_s]
    exact ⟨rfl, hv⟩
  · rw [zup_n q, zup_n q]
    exact h i h0 h1
theorem pE_numbered {n p : Int} (hn : 0 ≤ n ∧ n ≤ 8) (hp : zR p) : f_X6_fieldNumbered n n p = some (if 0 ≤ p ∧ p ≤ n - 1 then (0, p) else (3, 0)) := by
  unfold f_X6_fieldNumbered
  by_cases h : 0 ≤ p ∧ p ≤ n - 1
  · simp (disch := omega) only [zck_t, if_pos, if_neg]
  · by_cases h2 : p < 0
    · simp (disch := omega) only [zck_t, if_pos, if_neg]
    · simp (disch := omega) only [zck_t, if_pos, if_neg]
