theorem qSq_0 {p q : Int × Int} (hp : qBox p) (hq : qBox q) : qSq p q ≤ 0 ↔ qG (q.1 - p.1) (q.2 - p.2) = 0 := by
  have e1 := qSqr (d := q.1 - p.1) (D := 100) (by omega)
  have e2 := qSqr (d := q.2 - p.2) (D := 100) (by omega)
  have hg := qG_e (q.1 - p.1) (q.2 - p.2)
  have pos : ∀ d : Int, d ≠ 0 → 1 ≤ d * d := by
    intro d hd
    rcases Int.lt_or_le d 0 with z | z
    · have := qSq_le (a := 1) (b := -d) (by omega) (by omega)
      rw [Int.neg_mul_neg] at this
      exact this
    · exact qSq_le (a := 1) (b := d) (by omega) (by omega)
  unfold qSq
  constructor
  · intro h
    have z1 : q.1 - p.1 = 0 := by
      rcases Decidable.em (q.1 - p.1 = 0) with z | z
      · exact z
      · have := pos _ z
        omega
    have z2 : q.2 - p.2 = 0 := by
      rcases Decidable.em (q.2 - p.2 = 0) with z | z
      · exact z
      · have := pos _ z
        omega
    omega
  · intro h
    rw [show q.1 - p.1 = 0 by omega, show q.2 - p.2 = 0 by omega]
    decide
