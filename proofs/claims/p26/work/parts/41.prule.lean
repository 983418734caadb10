/-! ===== the pure functions: no machine any more ===== -/
/-- the rule of a loop: what holds at its head, what it comes to, and what falls -/
theorem zlp_rule {σ ρ : Type} {body : σ → Option (σ ⊕ ρ)} (I : σ → Prop) (P : ρ → Prop) (μ : σ → Nat) (h : ∀ s, I s → (∃ s', body s = some (.inl s') ∧ I s' ∧ μ s' < μ s) ∨ (∃ r, body s = some (.inr r) ∧ P r)) : ∀ (n : Nat) (s : σ), I s → μ s < n → ∃ r, zlp body n s = some r ∧ P r := by
  intro n
  induction n with
  | zero => intro s _ h2; exact absurd h2 (Nat.not_lt_zero _)
  | succ n ih =>
    intro s hI hn
    rcases h s hI with ⟨s', e, hI', hm⟩ | ⟨r, e, hP⟩
    · obtain ⟨r, e2, hP⟩ := ih s' hI' (by omega)
      refine ⟨r, ?_, hP⟩
      unfold zlp
      rw [e]
      exact e2
    · refine ⟨r, ?_, hP⟩
      unfold zlp
      rw [e]
