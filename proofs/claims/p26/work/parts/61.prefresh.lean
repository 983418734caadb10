/-! ===== the plan, as the program makes it ===== -/
theorem qSI_now {n : Int} {P : Int → List (Int × Int)} {s : qS} (h : qSI n P s) : -1 ≤ s.2.2.2 ∧ s.2.2.2 < 6 := h.2.2.2.2
theorem pE_nextField {n bd m : Int} {la co sz w k x y o kc th : Int → Int} {sec : UInt32} {xs ys : Int → Int → Int} {P : Int → List (Int × Int)} {s : qS} (hA : qAll n la co P) (hR : qPtsR n P xs ys sz) (hI : qSI n P s) (hw : ∀ i, 0 ≤ i → i < 8 → w i = s.1 i) (hb : 0 ≤ bd ∧ bd ≤ 100) (h : qPR co s.2.1 k x y o kc th m sec) :
    ∃ (t : qS) (w' k' x' y' o' kc' th' : Int → Int) (m' : Int) (sec' : UInt32), f_X6_sewNextField w bd co la xs ys sz k x y o kc th m sec s.2.2.1.1 s.2.2.1.2 s.2.2.2 n = some (w', k', x', y', o', kc', th', m', sec', t.2.2.1.1, t.2.2.1.2, t.2.2.2) ∧ (∀ i, 0 ≤ i → i < 8 → w' i = t.1 i) ∧ qPR co t.2.1 k' x' y' o' kc' th' m' sec' ∧ ((t = s ∧ ∀ i, ¬ s.1 i = 1) ∨ qTurn n la co P bd s t) := by
  obtain ⟨b, i, e, hbst⟩ := pE_next (bd := bd) (m := m) (k := k) (x := x) (y := y) (o := o) (kc := kc) (th := th) (sec := sec) hA hR hI hw
  have hn := hA.1
  unfold f_X6_sewNextField
  rw [e]
  simp only [zb3_e]
  rcases hbst with ⟨q1, q2⟩ | q
  · subst q1
    refine ⟨s, w, k, x, y, o, kc, th, m, sec, ?_, hw, h, Or.inl ⟨rfl, q2⟩⟩
    simp (disch := omega) only [if_neg]
  · obtain ⟨⟨b0, b1⟩, b2, b3⟩ := id q
    obtain ⟨a1, a2, a3, a4⟩ := hA.2 b b0 b1
    have hne := (hI.2.1 b b2).2
    cases hL : P b with
    | nil => exact absurd hL hne
    | cons p0 T =>
      have hpt := hR b b0 b1
      rw [hL] at hpt a3 a4
      have hturn : qTurn n la co P bd s (zup s.1 b 0, s.2.1 ++ qFC s.2.2.2 (co b) bd b s.2.2.1 p0 T, qLast p0 T, co b) := ⟨b, p0, T, q, hL, rfl⟩
      have hnow := qSI_now hI
      have hlen := (qTurn_I hA hI hturn).2.2
      replace hlen : s.2.1.length + ((s.2.1 ++ qFC s.2.2.2 (co b) bd b s.2.2.1 p0 T).length - s.2.1.length) ≤ 16640 := hlen
      rw [List.length_append] at hlen
      have hsz := hpt.1
      obtain ⟨k', x', y', o', kc', th', m', sec', e2, hr⟩ := pE_sewField (now := s.2.2.2) (f := b) (fc := co b) (b := bd) hpt (by omega) a4 h hI.2.2.2.1 ⟨rfl, a2.1, a2.2⟩ hnow hb (by omega)
      refine ⟨(zup s.1 b 0, s.2.1 ++ qFC s.2.2.2 (co b) bd b s.2.2.1 p0 T, qLast p0 T, co b), zup w b 0, k', x', y', o', kc', th', m', sec', ?_, ?_, hr, Or.inr hturn⟩
      · simp (disch := omega) only [zck_t, if_pos, if_neg, zlt]
        rw [e2]
        rfl
      · intro j j0 j1
        show zup w b 0 j = zup s.1 b 0 j
        by_cases z : j = b
        · rw [z, zup_s, zup_s]
        · rw [zup_n z, zup_n z]
          exact hw j j0 j1
theorem qCW_none {W : Int → Int} (h01 : ∀ i, W i = 0 ∨ W i = 1) (h : qCW W ≤ 0) (hs : ∀ i, W i = 1 → 0 ≤ i ∧ i < 8) : ∀ i, ¬ W i = 1 := by
  have x0 := h01 0
  have x1 := h01 1
  have x2 := h01 2
  have x3 := h01 3
  have x4 := h01 4
  have x5 := h01 5
  have x6 := h01 6
  have x7 := h01 7
  unfold qCW at h
  intro i hi
  have hc := hs i hi
  have hc : i = 0 ∨ i = 1 ∨ i = 2 ∨ i = 3 ∨ i = 4 ∨ i = 5 ∨ i = 6 ∨ i = 7 := by omega
  rcases hc with q | q | q | q | q | q | q | q <;> subst q <;> omega
theorem pE_turns {n bd kn : Int} {la co cl cc de le sh pu un cn sz w k x y o kc th dr : Int → Int} {fx fy cr xs ys : Int → Int → Int} {P : Int → List (Int × Int)} (hA : qAll n la co P) (hR : qPtsR n P xs ys sz) (hw : ∀ i, 0 ≤ i → i < 8 → w i = (qS0 n P).1 i) (hb : 0 ≤ bd ∧ bd ≤ 100) (h : qPR co [] k x y o kc th 0 0) :
    ∃ (i : Int) (t : qS) (w' k' x' y' o' kc' th' : Int → Int) (m' : Int) (sec' : UInt32), zlp (fun z => f_X6_refresh_L75 bd kn co la cl fx fy cr cn cc de le sh pu un dr xs ys sz n z.1 z.2.1 z.2.2.1 z.2.2.2.1 z.2.2.2.2.1 z.2.2.2.2.2.1 z.2.2.2.2.2.2.1 z.2.2.2.2.2.2.2.1 z.2.2.2.2.2.2.2.2.1 z.2.2.2.2.2.2.2.2.2.1 z.2.2.2.2.2.2.2.2.2.2.1 z.2.2.2.2.2.2.2.2.2.2.2.1 z.2.2.2.2.2.2.2.2.2.2.2.2) zFU (0, w, k, x, y, o, kc, th, 0, 0, 0, 0, (-1)) = some (i, w', k', x', y', o', kc', th', m', sec', t.2.2.1.1, t.2.2.1.2, t.2.2.2) ∧ qPR co t.2.1 k' x' y' o' kc' th' m' sec' ∧ (t.2.1.length ≤ 16640) ∧ qPlan n la co P bd (t.2.1 ++ [(4, 0, 0, -1)]) := by
  have hn := hA.1
  have H : ∃ q, zlp (fun z => f_X6_refresh_L75 bd kn co la cl fx fy cr cn cc de le sh pu un dr xs ys sz n z.1 z.2.1 z.2.2.1 z.2.2.2.1 z.2.2.2.2.1 z.2.2.2.2.2.1 z.2.2.2.2.2.2.1 z.2.2.2.2.2.2.2.1 z.2.2.2.2.2.2.2.2.1 z.2.2.2.2.2.2.2.2.2.1 z.2.2.2.2.2.2.2.2.2.2.1 z.2.2.2.2.2.2.2.2.2.2.2.1 z.2.2.2.2.2.2.2.2.2.2.2.2) zFU (0, w, k, x, y, o, kc, th, 0, 0, 0, 0, (-1)) = some q ∧ (∃ (t : qS) (m : Nat), qRun n la co P bd m (qS0 n P) t ∧ (∀ i, ¬ t.1 i = 1) ∧ q.2.2.2.2.2.2.2.2.2.2.1 = t.2.2.1.1 ∧ q.2.2.2.2.2.2.2.2.2.2.2.1 = t.2.2.1.2 ∧ q.2.2.2.2.2.2.2.2.2.2.2.2 = t.2.2.2 ∧ qPR co t.2.1 q.2.2.1 q.2.2.2.1 q.2.2.2.2.1 q.2.2.2.2.2.1 q.2.2.2.2.2.2.1 q.2.2.2.2.2.2.2.1 q.2.2.2.2.2.2.2.2.1 q.2.2.2.2.2.2.2.2.2.1) := by
    refine zlp_for (fun s : Int × (Int → Int) × (Int → Int) × (Int → Int) × (Int → Int) × (Int → Int) × (Int → Int) × (Int → Int) × Int × UInt32 × Int × Int × Int => s.1) (lo := 0) (hi := 8) (fun j q => ∃ (t : qS) (m : Nat), qRun n la co P bd m (qS0 n P) t ∧ ((m : Int) = j ∨ ∀ i, ¬ t.1 i = 1) ∧ (∀ i, 0 ≤ i → i < 8 → q.2.1 i = t.1 i) ∧ q.2.2.2.2.2.2.2.2.2.2.1 = t.2.2.1.1 ∧ q.2.2.2.2.2.2.2.2.2.2.2.1 = t.2.2.1.2 ∧ q.2.2.2.2.2.2.2.2.2.2.2.2 = t.2.2.2 ∧ qPR co t.2.1 q.2.2.1 q.2.2.2.1 q.2.2.2.2.1 q.2.2.2.2.2.1 q.2.2.2.2.2.2.1 q.2.2.2.2.2.2.2.1 q.2.2.2.2.2.2.2.2.1 q.2.2.2.2.2.2.2.2.2.1) _ (by omega) (by omega) ?_ ?_ (0, w, k, x, y, o, kc, th, 0, 0, 0, 0, (-1)) rfl ?_
    · intro s h0 h1 hR'
      obtain ⟨j, w, k, x, y, o, kc, th, m', sec, nx, ny, now⟩ := s
      replace h0 : 0 ≤ j := h0
      replace h1 : j < 8 := h1
      obtain ⟨t, m, hrun, hm, hw, p1, p2, p3, hpr⟩ := hR'
      replace hm : (m : Int) = j ∨ ∀ i, ¬ t.1 i = 1 := hm
      replace hw : ∀ i, 0 ≤ i → i < 8 → w i = t.1 i := hw
      replace p1 : nx = t.2.2.1.1 := p1
      replace p2 : ny = t.2.2.1.2 := p2
      replace p3 : now = t.2.2.2 := p3
      replace hpr : qPR co t.2.1 k x y o kc th m' sec := hpr
      have hI := (qRun_I hA m qS0_I hrun).1
      obtain ⟨t2, w', k', x', y', o', kc', th', m2, sec', e, hw2, hr, hstep⟩ := pE_nextField hA hR hI hw hb hpr
      refine ⟨(j + 1, w', k', x', y', o', kc', th', m2, sec', t2.2.2.1.1, t2.2.2.1.2, t2.2.2.2), ?_, rfl, ?_⟩
      · show f_X6_refresh_L75 bd kn co la cl fx fy cr cn cc de le sh pu un dr xs ys sz n j w k x y o kc th m' sec nx ny now = _
        unfold f_X6_refresh_L75
        rw [p1, p2, p3, e]
        simp (disch := omega) only [zck_t, if_neg, zb12_e]
      · rcases hstep with ⟨q1, q2⟩ | q
        · subst q1
          exact ⟨t2, m, hrun, Or.inr q2, hw2, rfl, rfl, rfl, hr⟩
        · rcases hm with hm | hm
          · exact ⟨t2, m + 1, ⟨t, hrun, q⟩, Or.inl (by show ((m + 1 : Nat) : Int) = j + 1; omega), hw2, rfl, rfl, rfl, hr⟩
          · obtain ⟨b, _, _, g, _⟩ := q
            exact absurd g.2.1 (hm b)
    · intro s h0 hR'
      obtain ⟨j, w, k, x, y, o, kc, th, m', sec, nx, ny, now⟩ := s
      replace h0 : j = 8 := h0
      obtain ⟨t, m, hrun, hm, hw, p1, p2, p3, hpr⟩ := hR'
      replace hm : (m : Int) = 8 ∨ ∀ i, ¬ t.1 i = 1 := hm
      refine ⟨(j, w, k, x, y, o, kc, th, m', sec, nx, ny, now), ?_, t, m, hrun, ?_, p1, p2, p3, hpr⟩
      · show f_X6_refresh_L75 bd kn co la cl fx fy cr cn cc de le sh pu un dr xs ys sz n j w k x y o kc th m' sec nx ny now = _
        unfold f_X6_refresh_L75
        simp (disch := omega) only [zck_t, if_pos]
      · rcases hm with hm | hm
        · obtain ⟨hI, hc⟩ := qRun_I hA m qS0_I hrun
          refine qCW_none hI.1 ?_ (fun i hi => by have := (hI.2.1 i hi).1; omega)
          have h01 := (qS0_I (n := n) (P := P)).1
          have x0 := h01 0
          have x1 := h01 1
          have x2 := h01 2
          have x3 := h01 3
          have x4 := h01 4
          have x5 := h01 5
          have x6 := h01 6
          have x7 := h01 7
          have : qCW (qS0 n P).1 ≤ 8 := by
            unfold qCW
            omega
          omega
        · exact hm
    · exact ⟨qS0 n P, 0, rfl, Or.inl rfl, hw, rfl, rfl, rfl, h⟩
  obtain ⟨⟨i, w', k', x', y', o', kc', th', m', sec', nx, ny, now⟩, e, t, m, hrun, hnone, p1, p2, p3, hr⟩ := H
  replace p1 : nx = t.2.2.1.1 := p1
  replace p2 : ny = t.2.2.1.2 := p2
  replace p3 : now = t.2.2.2 := p3
  subst p1
  subst p2
  subst p3
  refine ⟨i, t, w', k', x', y', o', kc', th', m', sec', e, hr, ?_, m, t, hrun, hnone, rfl⟩
  have hI := (qRun_I hA m qS0_I hrun).1
  have h3 := hI.2.2.1
  have h01 := hI.1
  have x0 := h01 0
  have x1 := h01 1
  have x2 := h01 2
  have x3 := h01 3
  have x4 := h01 4
  have x5 := h01 5
  have x6 := h01 6
  have x7 := h01 7
  have : 0 ≤ qCW t.1 := by
    unfold qCW
    omega
  omega
theorem pE_pbegin {kc th : Int → Int} {n nx ny now : Int} {sec : UInt32} {col k x y o : Int → Int} : ∃ kc' th', f_X3_begin kc th n sec nx ny now = some (kc', th', 0, 0, 0, 0, (-1)) ∧ qPR col [] k x y o kc' th' 0 0 := by
  have H1 : ∃ q, zlp (fun z => f_X3_begin_L27 th 0 0 0 0 (-1) z.1 z.2) zFU (0, kc) = some q ∧ (∀ i, 0 ≤ i → i < 5 → q.2 i = 0) := by
    refine zlp_for (fun s : Int × (Int → Int) => s.1) (lo := 0) (hi := 5) (fun j s => ∀ i, 0 ≤ i → i < j → s.2 i = 0) _ (by omega) (by omega) ?_ ?_ (0, kc) rfl (fun i a b => by omega)
    · intro s h0 h1 hR
      obtain ⟨j, a⟩ := s
      replace h0 : 0 ≤ j := h0
      replace h1 : j < 5 := h1
      refine ⟨(j + 1, zup a j 0), ?_, rfl, ?_⟩
      · show f_X3_begin_L27 th 0 0 0 0 (-1) j a = _
        unfold f_X3_begin_L27
        simp (disch := omega) only [zck_t, if_neg, zlt]
      · intro i i0 i1
        show zup a j 0 i = 0
        by_cases q : i = j
        · rw [q, zup_s]
        · rw [zup_n q]
          exact hR i i0 (by show i < j; replace i1 : i < j + 1 := i1; omega)
    · intro s h0 hR
      obtain ⟨j, a⟩ := s
      replace h0 : j = 5 := h0
      refine ⟨(j, a), ?_, hR⟩
      show f_X3_begin_L27 th 0 0 0 0 (-1) j a = _
      unfold f_X3_begin_L27
      simp (disch := omega) only [zck_t, if_pos]
  obtain ⟨⟨j, kc'⟩, e1, h1⟩ := H1
  have H2 : ∃ q, zlp (fun z => f_X3_begin_L51 kc' 0 0 0 0 (-1) z.1 z.2) zFU (0, th) = some q ∧ (∀ i, 0 ≤ i → i < 6 → q.2 i = 0) := by
    refine zlp_for (fun s : Int × (Int → Int) => s.1) (lo := 0) (hi := 6) (fun j s => ∀ i, 0 ≤ i → i < j → s.2 i = 0) _ (by omega) (by omega) ?_ ?_ (0, th) rfl (fun i a b => by omega)
    · intro s h0 h1 hR
      obtain ⟨j, a⟩ := s
      replace h0 : 0 ≤ j := h0
      replace h1 : j < 6 := h1
      refine ⟨(j + 1, zup a j 0), ?_, rfl, ?_⟩
      · show f_X3_begin_L51 kc' 0 0 0 0 (-1) j a = _
        unfold f_X3_begin_L51
        simp (disch := omega) only [zck_t, if_neg, zlt]
      · intro i i0 i1
        show zup a j 0 i = 0
        by_cases q : i = j
        · rw [q, zup_s]
        · rw [zup_n q]
          exact hR i i0 (by show i < j; replace i1 : i < j + 1 := i1; omega)
    · intro s h0 hR
      obtain ⟨j, a⟩ := s
      replace h0 : j = 6 := h0
      refine ⟨(j, a), ?_, hR⟩
      show f_X3_begin_L51 kc' 0 0 0 0 (-1) j a = _
      unfold f_X3_begin_L51
      simp (disch := omega) only [zck_t, if_pos]
  obtain ⟨⟨j2, th'⟩, e2, h2⟩ := H2
  refine ⟨kc', th', ?_, qRow_nil _, fun i a b => h1 i a b, fun i a b => h2 i a b, rfl⟩
  unfold f_X3_begin
  rw [e1]
  simp only [zb2_e]
  rw [e2]
  rfl
