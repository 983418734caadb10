/-! ===== the order, as the program finds it ===== -/
abbrev qPtsR (n : Int) (P : Int → List (Int × Int)) (xs ys : Int → Int → Int) (sz : Int → Int) : Prop := ∀ i, 0 ≤ i → i < n → qPt (xs i) (ys i) (sz i) (P i)
theorem pE_sqFirst {xs ys : Int → Int} {n : Int} {L : List (Int × Int)} {p : Int × Int} (h : qPt xs ys n L) (hl : L.length ≤ 2078) : f_X3_squareToFirst xs ys n p.1 p.2 = some (qSq p (L.headD (0, 0))) := by
  have hn := h.1
  unfold f_X3_squareToFirst f_X4_firstX f_X4_firstY
  cases L with
  | nil =>
    replace hn : n = 0 := hn
    subst hn
    rfl
  | cons q T =>
    obtain ⟨hd, hn1, _⟩ := qPt_head h
    simp (disch := omega) only [zck_t, if_neg, zb1_e, zlt]
    rw [show xs 0 = q.1 by rw [← hd], show ys 0 = q.2 by rw [← hd]]
    rfl
theorem qD_b {n : Int} {la co : Int → Int} {P : Int → List (Int × Int)} {p : Int × Int} {i : Int} (hA : qAll n la co P) (hp : qBox p) (h0 : 0 ≤ i) (h1 : i < n) : 0 ≤ qD P p i ∧ qD P p i ≤ 20000 := by
  obtain ⟨_, _, _, h4⟩ := hA.2 i h0 h1
  unfold qD
  apply qSq_b hp
  cases hL : P i with
  | nil =>
    show (-3 ≤ (0 : Int) ∧ (0 : Int) ≤ 34) ∧ (0 ≤ (0 : Int) ∧ (0 : Int) ≤ 31)
    omega
  | cons q T => exact h4 q (by rw [hL]; exact List.mem_cons.mpr (Or.inl rfl))
theorem pE_comes {n now i j : Int} {la co sz : Int → Int} {xs ys : Int → Int → Int} {P : Int → List (Int × Int)} {p : Int × Int} (hA : qAll n la co P) (hR : qPtsR n P xs ys sz) (hp : qBox p) (hi : 0 ≤ i ∧ i < n) (hj : 0 ≤ j ∧ j < n) (hnow : -1 ≤ now ∧ now < 6) :
    ∃ r, f_X6_comesAhead co la xs ys sz p.1 p.2 now n i j = some r ∧ ((r = 1 ∧ qAhead la co (qD P p) now i j) ∨ (r = 0 ∧ ¬ qAhead la co (qD P p) now i j)) := by
  obtain ⟨a1, a2, a3, a4⟩ := hA.2 i hi.1 hi.2
  obtain ⟨b1, b2, b3, b4⟩ := hA.2 j hj.1 hj.2
  have e1 : f_X3_squareToFirst (xs i) (ys i) (sz i) p.1 p.2 = some (qD P p i) := pE_sqFirst (hR i hi.1 hi.2) a3
  have e2 : f_X3_squareToFirst (xs j) (ys j) (sz j) p.1 p.2 = some (qD P p j) := pE_sqFirst (hR j hj.1 hj.2) b3
  have d1 := qD_b hA hp hi.1 hi.2
  have d2 := qD_b hA hp hj.1 hj.2
  have hn := hA.1
  unfold f_X6_comesAhead f_X6_comesAhead_47 f_X6_comesAhead_67
  unfold qAhead
  by_cases c1 : la i = la j
  · by_cases c2 : co i = now
    · by_cases c3 : co j = now
      · by_cases c4 : qD P p j ≤ qD P p i
        · refine ⟨0, ?_, Or.inr ⟨rfl, by omega⟩⟩
          simp (disch := omega) only [zck_t, if_pos, if_true, e1, e2, zb1_e]
        · refine ⟨1, ?_, Or.inl ⟨rfl, by omega⟩⟩
          simp (disch := omega) only [zck_t, if_pos, if_neg, if_true, e1, e2, zb1_e]
      · refine ⟨1, ?_, Or.inl ⟨rfl, by omega⟩⟩
        simp (disch := omega) only [zck_t, if_pos, if_neg]
        exact zck_t (Or.inr trivial)
    · by_cases c3 : co j = now
      · refine ⟨0, ?_, Or.inr ⟨rfl, by omega⟩⟩
        simp (disch := omega) only [zck_t, if_pos, if_neg]
        exact zck_t (Or.inl trivial)
      · by_cases c4 : qD P p j ≤ qD P p i
        · refine ⟨0, ?_, Or.inr ⟨rfl, by omega⟩⟩
          simp (disch := omega) only [zck_t, if_pos, if_neg, if_true, e1, e2, zb1_e]
        · refine ⟨1, ?_, Or.inl ⟨rfl, by omega⟩⟩
          simp (disch := omega) only [zck_t, if_pos, if_neg, if_true, e1, e2, zb1_e]
  · by_cases c2 : la j ≤ la i
    · refine ⟨0, ?_, Or.inr ⟨rfl, by omega⟩⟩
      simp (disch := omega) only [zck_t, if_pos, if_neg]
    · refine ⟨1, ?_, Or.inl ⟨rfl, by omega⟩⟩
      simp (disch := omega) only [zck_t, if_neg]
theorem pE_next {n bd m : Int} {la co sz w k x y o kc th : Int → Int} {sec : UInt32} {xs ys : Int → Int → Int} {P : Int → List (Int × Int)} {s : qS} (hA : qAll n la co P) (hR : qPtsR n P xs ys sz) (hI : qSI n P s) (hw : ∀ i, 0 ≤ i → i < 8 → w i = s.1 i) :
    ∃ b i, zlp (fun z => f_X6_sewNextField_L6 w bd co la xs ys sz k x y o kc th m sec s.2.2.1.1 s.2.2.1.2 s.2.2.2 n z.1 z.2.1 z.2.2) zFU ((-1), (-1), 0) = some (b, b, i) ∧ ((b = -1 ∧ ∀ i, ¬ s.1 i = 1) ∨ qBest n la co (qD P s.2.2.1) s.1 s.2.2.2 b) := by
  obtain ⟨W, C, p, now⟩ := s
  obtain ⟨i1, i2, i3, i4, i5⟩ := hI
  replace i1 : ∀ i, W i = 0 ∨ W i = 1 := i1
  replace i2 : ∀ i, W i = 1 → (0 ≤ i ∧ i < n) ∧ ¬ P i = [] := i2
  replace i4 : qBox p := i4
  replace i5 : -1 ≤ now ∧ now < 6 := i5
  replace hw : ∀ i, 0 ≤ i → i < 8 → w i = W i := hw
  have hn := hA.1
  have H : ∃ q, zlp (fun z => f_X6_sewNextField_L6 w bd co la xs ys sz k x y o kc th m sec p.1 p.2 now n z.1 z.2.1 z.2.2) zFU ((-1), (-1), 0) = some q ∧ (q.2.1 = q.1 ∧ ((q.1 = -1 ∧ ∀ i, 0 ≤ i → i < 8 → ¬ W i = 1) ∨ (q.1 < n ∧ qBest 8 la co (qD P p) W now q.1))) := by
    refine zlp_for (fun s : Int × Int × Int => s.2.2) (lo := 0) (hi := 8) (fun j s => s.2.1 = s.1 ∧ ((s.1 = -1 ∧ ∀ i, 0 ≤ i → i < j → ¬ W i = 1) ∨ (s.1 < n ∧ qBest j la co (qD P p) W now s.1))) _ (by omega) (by omega) ?_ ?_ ((-1), (-1), 0) rfl ?_
    · intro s h0 h1 hR'
      obtain ⟨b, b', j⟩ := s
      replace h0 : 0 ≤ j := h0
      replace h1 : j < 8 := h1
      obtain ⟨e, hR'⟩ := hR'
      replace e : b' = b := e
      subst e
      replace hR' : (b' = -1 ∧ ∀ i, 0 ≤ i → i < j → ¬ W i = 1) ∨ (b' < n ∧ qBest j la co (qD P p) W now b') := hR'
      have hwj := hw j h0 h1
      show ∃ s', f_X6_sewNextField_L6 w bd co la xs ys sz k x y o kc th m sec p.1 p.2 now n b' b' j = some (.inl s') ∧ s'.2.2 = j + 1 ∧ (s'.2.1 = s'.1 ∧ ((s'.1 = -1 ∧ ∀ i, 0 ≤ i → i < j + 1 → ¬ W i = 1) ∨ (s'.1 < n ∧ qBest (j + 1) la co (qD P p) W now s'.1)))
      have hnotw : ¬ W j = 1 → ((b' = -1 ∧ ∀ i, 0 ≤ i → i < j + 1 → ¬ W i = 1) ∨ (b' < n ∧ qBest (j + 1) la co (qD P p) W now b')) := by
        intro hj
        rcases hR' with ⟨q1, q2⟩ | ⟨q0, q1, q2, q3⟩
        · refine Or.inl ⟨q1, fun i a b => ?_⟩
          by_cases z : i = j
          · rw [z]; exact hj
          · exact q2 i a (by omega)
        · refine Or.inr ⟨q0, ⟨q1.1, by omega⟩, q2, fun i a b c d => ?_⟩
          by_cases z : i = j
          · rw [z] at c; exact absurd c hj
          · exact q3 i a (by omega) c d
      unfold f_X6_sewNextField_L6
      by_cases c1 : 0 ≤ j ∧ j < n
      · by_cases c2 : W j = 1
        · rcases hR' with ⟨q1, q2⟩ | ⟨q0, q1, q2, q3⟩
          · refine ⟨(j, j, j + 1), ?_, rfl, rfl, Or.inr ⟨c1.2, ⟨h0, by omega⟩, c2, fun i a b c d => ?_⟩⟩
            · simp (disch := omega) only [zck_t, if_pos, if_neg]
            · exact absurd c (q2 i a (by omega))
          · obtain ⟨r, er, hr⟩ := pE_comes (i := j) (j := b') (now := now) hA hR i4 c1 ⟨q1.1, q0⟩ i5
            rcases hr with ⟨hr1, hr2⟩ | ⟨hr1, hr2⟩
            · subst hr1
              refine ⟨(j, j, j + 1), ?_, rfl, rfl, Or.inr ⟨c1.2, ⟨h0, by omega⟩, c2, fun i a b c d => ⟨fun lt => ?_, fun gt => ?_⟩⟩⟩
              · simp (disch := omega) only [zck_t, if_pos, if_neg, er, zb1_e]
              · by_cases z : i = b'
                · rw [z]; exact hr2
                · obtain ⟨g1, g2⟩ := q3 i a lt c z
                  rcases Int.lt_or_le i b' with l | l
                  · exact qAhead_t hr2 (g1 l)
                  · exact qAhead_n hr2 (g2 (by omega))
              · replace gt : j < i := gt
                omega
            · subst hr1
              refine ⟨(b', b', j + 1), ?_, rfl, rfl, Or.inr ⟨q0, ⟨q1.1, by show b' < j + 1; omega⟩, q2, fun i a b c d => ?_⟩⟩
              · simp (disch := omega) only [zck_t, if_pos, if_neg, er, zb1_e, if_true]
              · by_cases z : i = j
                · subst z
                  refine ⟨fun lt => ?_, fun _ => hr2⟩
                  replace lt : i < b' := lt
                  omega
                · exact q3 i a (by omega) c d
        · refine ⟨(b', b', j + 1), ?_, rfl, rfl, hnotw c2⟩
          have := i1 j
          simp (disch := omega) only [zck_t, if_pos, if_neg]
      · have c2 : ¬ W j = 1 := fun z => c1 ((i2 j z).1)
        refine ⟨(b', b', j + 1), ?_, rfl, rfl, hnotw c2⟩
        simp (disch := omega) only [zck_t, if_neg]
    · intro s h0 hR'
      obtain ⟨b, b', j⟩ := s
      replace h0 : j = 8 := h0
      refine ⟨(b, b', j), ?_, hR'⟩
      show f_X6_sewNextField_L6 w bd co la xs ys sz k x y o kc th m sec p.1 p.2 now n b b' j = _
      unfold f_X6_sewNextField_L6
      simp (disch := omega) only [zck_t, if_pos]
    · exact ⟨rfl, Or.inl ⟨rfl, fun i a b => by omega⟩⟩
  obtain ⟨⟨b, b', i⟩, e, h1, h2⟩ := H
  replace h1 : b' = b := h1
  subst h1
  refine ⟨b', i, e, ?_⟩
  rcases h2 with ⟨q1, q2⟩ | ⟨q0, q1, q2, q3⟩
  · refine Or.inl ⟨q1, fun j hj => ?_⟩
    have := (i2 j hj).1
    exact q2 j this.1 (by omega) hj
  · exact Or.inr ⟨⟨q1.1, q0⟩, q2, fun j a b c d => q3 j a (by omega) c d⟩
