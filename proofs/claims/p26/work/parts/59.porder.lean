/-! ===== the order of fields ===== -/
/-- who waits, the commands so far, the needle, the colour of now -/
abbrev qS : Type := (Int → Int) × List qC × (Int × Int) × Int
def qAhead (la co D : Int → Int) (now i j : Int) : Prop := la i < la j ∨ (la i = la j ∧ ((co i = now ∧ ¬ co j = now) ∨ ((co i = now ↔ co j = now) ∧ D i < D j)))
def qD (P : Int → List (Int × Int)) (p : Int × Int) (i : Int) : Int := qSq p ((P i).headD (0, 0))
def qBest (n : Int) (la co D W : Int → Int) (now b : Int) : Prop := (0 ≤ b ∧ b < n) ∧ W b = 1 ∧ ∀ j, 0 ≤ j → j < n → W j = 1 → ¬ j = b → (j < b → qAhead la co D now b j) ∧ (b < j → ¬ qAhead la co D now j b)
theorem qAhead_t {la co D : Int → Int} {now i j k : Int} (h1 : qAhead la co D now i j) (h2 : qAhead la co D now j k) : qAhead la co D now i k := by
  unfold qAhead at *
  omega
theorem qAhead_n {la co D : Int → Int} {now i j k : Int} (h1 : qAhead la co D now i k) (h2 : ¬ qAhead la co D now j k) : qAhead la co D now i j := by
  unfold qAhead at *
  omega
theorem qBest_u {n : Int} {la co D W : Int → Int} {now b c : Int} (h1 : qBest n la co D W now b) (h2 : qBest n la co D W now c) : b = c := by
  obtain ⟨b1, b2, b3⟩ := h1
  obtain ⟨c1, c2, c3⟩ := h2
  rcases Int.lt_or_le b c with q | q
  · exact absurd ((c3 b b1.1 b1.2 b2 (by omega)).1 q) ((b3 c c1.1 c1.2 c2 (by omega)).2 q)
  · rcases Int.lt_or_le c b with q2 | q2
    · exact absurd ((b3 c c1.1 c1.2 c2 (by omega)).1 q2) ((c3 b b1.1 b1.2 b2 (by omega)).2 q2)
    · omega
def qCW (W : Int → Int) : Int := W 0 + W 1 + W 2 + W 3 + W 4 + W 5 + W 6 + W 7
theorem qCW_up {W : Int → Int} {b : Int} (hb : 0 ≤ b ∧ b < 8) (h : W b = 1) : qCW (zup W b 0) = qCW W - 1 := by
  have hc : b = 0 ∨ b = 1 ∨ b = 2 ∨ b = 3 ∨ b = 4 ∨ b = 5 ∨ b = 6 ∨ b = 7 := by omega
  unfold qCW
  rcases hc with q | q | q | q | q | q | q | q <;> subst q <;> rw [zup_s] <;> (repeat rw [zup_n (by decide)]) <;> omega
/-- what holds of a plan that is under way -/
def qSI (n : Int) (P : Int → List (Int × Int)) (s : qS) : Prop := (∀ i, s.1 i = 0 ∨ s.1 i = 1) ∧ (∀ i, s.1 i = 1 → (0 ≤ i ∧ i < n) ∧ ¬ P i = []) ∧ ((s.2.1.length : Int) + 2080 * qCW s.1 ≤ 16640) ∧ qBox s.2.2.1 ∧ (-1 ≤ s.2.2.2 ∧ s.2.2.2 < 6)
/-- one turn: the best of those that wait is sewn -/
def qTurn (n : Int) (la co : Int → Int) (P : Int → List (Int × Int)) (bd : Int) (s s' : qS) : Prop := ∃ b p0 T, qBest n la co (qD P s.2.2.1) s.1 s.2.2.2 b ∧ P b = p0 :: T ∧ s' = (zup s.1 b 0, s.2.1 ++ qFC s.2.2.2 (co b) bd b s.2.2.1 p0 T, qLast p0 T, co b)
theorem qTurn_u {n : Int} {la co : Int → Int} {P : Int → List (Int × Int)} {bd : Int} {s a b : qS} (h1 : qTurn n la co P bd s a) (h2 : qTurn n la co P bd s b) : a = b := by
  obtain ⟨i, p0, T, e1, e2, e3⟩ := h1
  obtain ⟨j, q0, U, g1, g2, g3⟩ := h2
  have := qBest_u e1 g1
  subst this
  rw [e2] at g2
  cases g2
  rw [e3, g3]
/-- what is known of all fields -/
abbrev qAll (n : Int) (la co : Int → Int) (P : Int → List (Int × Int)) : Prop := (0 ≤ n ∧ n ≤ 8) ∧ ∀ i, 0 ≤ i → i < n → (0 ≤ la i ∧ la i < 4) ∧ (0 ≤ co i ∧ co i < 6) ∧ (P i).length ≤ 2078 ∧ ∀ q ∈ P i, qBox q
theorem qTurn_I {n : Int} {la co : Int → Int} {P : Int → List (Int × Int)} {bd : Int} {s s' : qS} (hA : qAll n la co P) (hI : qSI n P s) (h : qTurn n la co P bd s s') : qSI n P s' ∧ qCW s'.1 = qCW s.1 - 1 ∧ s.2.1.length + (s'.2.1.length - s.2.1.length) ≤ 16640 := by
  obtain ⟨i1, i2, i3, i4, i5⟩ := hI
  obtain ⟨b, p0, T, e1, e2, e3⟩ := h
  obtain ⟨b1, b2, b3⟩ := e1
  obtain ⟨a1, a2, a3, a4⟩ := hA.2 b b1.1 b1.2
  have hcw := qCW_up (W := s.1) (b := b) (by have := hA.1; omega) b2
  have hcn : 0 ≤ qCW (zup s.1 b 0) := by
    have e : ∀ i, zup s.1 b 0 i = 0 ∨ zup s.1 b 0 i = 1 := by
      intro i
      by_cases q : i = b
      · rw [q, zup_s]; exact Or.inl rfl
      · rw [zup_n q]; exact i1 i
    have x0 := e 0
    have x1 := e 1
    have x2 := e 2
    have x3 := e 3
    have x4 := e 4
    have x5 := e 5
    have x6 := e 6
    have x7 := e 7
    unfold qCW
    omega
  have hl := qFC_len (now := s.2.2.2) (c := co b) (b := bd) (f := b) (p := s.2.2.1) (p0 := p0) (T := T)
  rw [e2, List.length_cons] at a3
  rw [e2] at a4
  subst e3
  refine ⟨⟨?_, ?_, ?_, ?_, ?_⟩, hcw, ?_⟩
  · intro i
    show zup s.1 b 0 i = 0 ∨ zup s.1 b 0 i = 1
    by_cases q : i = b
    · rw [q, zup_s]; exact Or.inl rfl
    · rw [zup_n q]; exact i1 i
  · intro i hi
    replace hi : zup s.1 b 0 i = 1 := hi
    by_cases q : i = b
    · rw [q, zup_s] at hi
      omega
    · rw [zup_n q] at hi
      exact i2 i hi
  · show (((s.2.1 ++ qFC s.2.2.2 (co b) bd b s.2.2.1 p0 T).length : Nat) : Int) + 2080 * qCW (zup s.1 b 0) ≤ 16640
    rw [List.length_append]
    omega
  · exact qLast_in (a4 p0 (List.mem_cons.mpr (Or.inl rfl))) (fun q hq => a4 q (List.mem_cons.mpr (Or.inr hq)))
  · show -1 ≤ co b ∧ co b < 6
    omega
  · show s.2.1.length + ((s.2.1 ++ qFC s.2.2.2 (co b) bd b s.2.2.1 p0 T).length - s.2.1.length) ≤ 16640
    rw [List.length_append]
    omega
/-- turns, one after another -/
def qRun (n : Int) (la co : Int → Int) (P : Int → List (Int × Int)) (bd : Int) : Nat → qS → qS → Prop
  | 0, s, t => t = s
  | k + 1, s, t => ∃ u, qRun n la co P bd k s u ∧ qTurn n la co P bd u t
theorem qRun_u {n : Int} {la co : Int → Int} {P : Int → List (Int × Int)} {bd : Int} (k : Nat) : ∀ {s a b : qS}, qRun n la co P bd k s a → qRun n la co P bd k s b → a = b := by
  induction k with
  | zero => intro s a b h1 h2; exact h1.trans h2.symm
  | succ k ih =>
    intro s a b h1 h2
    obtain ⟨u, u1, u2⟩ := h1
    obtain ⟨w, w1, w2⟩ := h2
    have := ih u1 w1
    subst this
    exact qTurn_u u2 w2
theorem qRun_I {n : Int} {la co : Int → Int} {P : Int → List (Int × Int)} {bd : Int} (hA : qAll n la co P) (k : Nat) : ∀ {s t : qS}, qSI n P s → qRun n la co P bd k s t → qSI n P t ∧ qCW t.1 = qCW s.1 - k := by
  induction k with
  | zero => intro s t hI h; rw [h]; exact ⟨hI, by omega⟩
  | succ k ih =>
    intro s t hI h
    obtain ⟨u, u1, u2⟩ := h
    obtain ⟨g1, g2⟩ := ih hI u1
    obtain ⟨g3, g4, _⟩ := qTurn_I hA g1 u2
    exact ⟨g3, by omega⟩
/-- where the plan begins -/
def qS0 (n : Int) (P : Int → List (Int × Int)) : qS := (fun i => if (0 ≤ i ∧ i < n) ∧ ¬ P i = [] then 1 else 0, [], (0, 0), -1)
theorem qS0_I {n : Int} {P : Int → List (Int × Int)} : qSI n P (qS0 n P) := by
  have h01 : ∀ i, (qS0 n P).1 i = 0 ∨ (qS0 n P).1 i = 1 := by
    intro i
    show (if (0 ≤ i ∧ i < n) ∧ ¬ P i = [] then (1 : Int) else 0) = 0 ∨ (if (0 ≤ i ∧ i < n) ∧ ¬ P i = [] then (1 : Int) else 0) = 1
    split <;> omega
  refine ⟨h01, ?_, ?_, ?_, ?_⟩
  · intro i hi
    replace hi : (if (0 ≤ i ∧ i < n) ∧ ¬ P i = [] then (1 : Int) else 0) = 1 := hi
    split at hi
    · assumption
    · omega
  · show ((0 : Nat) : Int) + 2080 * qCW (qS0 n P).1 ≤ 16640
    have x0 := h01 0
    have x1 := h01 1
    have x2 := h01 2
    have x3 := h01 3
    have x4 := h01 4
    have x5 := h01 5
    have x6 := h01 6
    have x7 := h01 7
    unfold qCW
    omega
  · show (-3 ≤ (0 : Int) ∧ (0 : Int) ≤ 34) ∧ (0 ≤ (0 : Int) ∧ (0 : Int) ≤ 31)
    omega
  · show -1 ≤ (-1 : Int) ∧ (-1 : Int) < 6
    omega
/-- all commands -/
def qPlan (n : Int) (la co : Int → Int) (P : Int → List (Int × Int)) (bd : Int) (C : List qC) : Prop := ∃ k s, qRun n la co P bd k (qS0 n P) s ∧ (∀ i, ¬ s.1 i = 1) ∧ C = s.2.1 ++ [(4, 0, 0, -1)]
theorem qPlan_u {n : Int} {la co : Int → Int} {P : Int → List (Int × Int)} {bd : Int} {C C' : List qC} (hA : qAll n la co P) (h1 : qPlan n la co P bd C) (h2 : qPlan n la co P bd C') : C = C' := by
  obtain ⟨k, s, r1, w1, e1⟩ := h1
  obtain ⟨m, t, r2, w2, e2⟩ := h2
  have g1 := qRun_I hA k qS0_I r1
  have g2 := qRun_I hA m qS0_I r2
  have z : ∀ s : qS, (∀ i, s.1 i = 0 ∨ s.1 i = 1) → (∀ i, ¬ s.1 i = 1) → qCW s.1 = 0 := by
    intro s h01 hw
    have e : ∀ i, s.1 i = 0 := fun i => (h01 i).resolve_right (hw i)
    unfold qCW
    rw [e, e, e, e, e, e, e, e]
    rfl
  have z1 := z s g1.1.1 w1
  have z2 := z t g2.1.1 w2
  have hk : k = m := by omega
  subst hk
  have := qRun_u k r1 r2
  subst this
  rw [e1, e2]
