/-! ===== the order, as the model finds it ===== -/
theorem zlp_rule2 {σ ρ : Type} {body : σ → Option (σ ⊕ ρ)} (I : Nat → σ → Prop) (P : ρ → Prop) (h : ∀ k s, I k s → (∃ s' k', body s = some (.inl s') ∧ k' < k ∧ I k' s') ∨ (∃ r, body s = some (.inr r) ∧ P r)) : ∀ (n k : Nat) (s : σ), I k s → k < n → ∃ r, zlp body n s = some r ∧ P r := by
  intro n
  induction n with
  | zero => intro k s _ h2; exact absurd h2 (Nat.not_lt_zero _)
  | succ n ih =>
    intro k s hI hn
    rcases h k s hI with ⟨s', k', e, hm, hI'⟩ | ⟨r, e, hP⟩
    · obtain ⟨r, e2, hP⟩ := ih k' s' hI' (by omega)
      refine ⟨r, ?_, hP⟩
      unfold zlp
      rw [e]
      exact e2
    · refine ⟨r, ?_, hP⟩
      unfold zlp
      rw [e]
def qCand (la co : Int → Int) (U : Int → Prop) (l c i : Int) : Prop := U i ∧ la i = l ∧ (c = -1 ∨ co i = c)
def qNear (n : Int) (la co D : Int → Int) (U : Int → Prop) (l c r : Int) : Prop := (r = -1 ∧ ∀ i, 0 ≤ i → i < n → ¬ qCand la co U l c i) ∨ ((0 ≤ r ∧ r < n) ∧ qCand la co U l c r ∧ ∀ j, 0 ≤ j → j < n → qCand la co U l c j → ¬ j = r → (j < r → D r < D j) ∧ (r < j → D r ≤ D j))
/-- the model's numbers of all fields -/
abbrev qMoA (n : Int) (la co cl kc : Int → Int) (fx fy : Int → Int → Int) (de le sh pu un : Int → Int) (mcol mla mic mco mcX mcY mde mlo msh mpu mhu : Int → Int) : Prop := ∀ i, 0 ≤ i → i < n → mcol i = co i ∧ mla i = la i ∧ qMo i (cl i) (kc i) (fx i) (fy i) (de i) (le i) (sh i) (pu i) (un i) mco mcX mcY mic mde mlo msh mpu mhu
