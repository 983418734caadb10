/-! ===== the model's plan ===== -/
theorem qNear_A {n : Int} {la co D W : Int → Int} {U : Int → Prop} {l now r : Int} (hall : ∀ i, W i = 1 → l ≤ la i) (hW : ∀ i, 0 ≤ i → i < n → (W i = 1 ↔ U i)) (h : qNear n la co D U l (-1) r) (hr : ¬ r = -1) (hno : ∀ i, 0 ≤ i → i < n → U i → la i = l → ¬ co i = now) : qBest n la co D W now r := by
  rcases h with ⟨q, _⟩ | ⟨h1, h2, h3⟩
  · exact absurd q hr
  · obtain ⟨u1, u2, _⟩ := h2
    refine ⟨h1, (hW r h1.1 h1.2).mpr u1, fun j j0 j1 jw jr => ?_⟩
    have hju := (hW j j0 j1).mp jw
    have hjl := hall j jw
    have hn1 := hno r h1.1 h1.2 u1 u2
    by_cases z : la j = l
    · have hn2 := hno j j0 j1 hju z
      have hd := h3 j j0 j1 ⟨hju, z, Or.inl rfl⟩ jr
      unfold qAhead
      refine ⟨fun lt => ?_, fun gt => ?_⟩
      · have := hd.1 lt
        omega
      · have := hd.2 gt
        omega
    · unfold qAhead
      omega
theorem qNear_B {n : Int} {la co D W : Int → Int} {U : Int → Prop} {l now r : Int} (hall : ∀ i, W i = 1 → l ≤ la i) (hW : ∀ i, 0 ≤ i → i < n → (W i = 1 ↔ U i)) (h : qNear n la co D U l now r) (hr : ¬ r = -1) (hnow : ¬ now = -1) : qBest n la co D W now r := by
  rcases h with ⟨q, _⟩ | ⟨h1, h2, h3⟩
  · exact absurd q hr
  · obtain ⟨u1, u2, u3⟩ := h2
    have u3' : co r = now := u3.resolve_left hnow
    refine ⟨h1, (hW r h1.1 h1.2).mpr u1, fun j j0 j1 jw jr => ?_⟩
    have hju := (hW j j0 j1).mp jw
    have hjl := hall j jw
    by_cases z : la j = l
    · by_cases z2 : co j = now
      · have hd := h3 j j0 j1 ⟨hju, z, Or.inr z2⟩ jr
        unfold qAhead
        refine ⟨fun lt => ?_, fun gt => ?_⟩
        · have := hd.1 lt
          omega
        · have := hd.2 gt
          omega
      · unfold qAhead
        omega
    · unfold qAhead
      omega
/-- the model's plan under way -/
def qOK (n : Int) (la co : Int → Int) (P : Int → List (Int × Int)) (bd l now nc : Int) (k x y o : Int → Int) (nx ny : Int) (sewn : Int → Int) (t : qS) : Prop := (∃ m, qRun n la co P bd m (qS0 n P) t) ∧ (∀ i, t.1 i = 1 → l ≤ la i) ∧ now = t.2.2.2 ∧ qCm k x y o nc t.2.1 ∧ nx = t.2.2.1.1 ∧ ny = t.2.2.1.2 ∧ (∀ i, 0 ≤ i → i < n → sewn i = 0 ∨ sewn i = 1) ∧ (∀ i, 0 ≤ i → i < n → (t.1 i = 1 ↔ (sewn i = 0 ∧ ¬ P i = [])))
