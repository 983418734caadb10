/-! ===== the machine starts ===== -/
theorem pE_begin {m hc lc w1 w2 : Int} {k x y o sa br ba st : Int → Int} (hm : 0 ≤ m ∧ m ≤ 16641) (hk : ∀ j, 0 ≤ j → j < m → 0 ≤ k j ∧ k j ≤ 4) (hs : sa 0 = 0) {la cc pl : Int} : ∃ sa' br' ba' st', f_X1_begin k x y o m sa br ba st hc la cc pl w1 w2 = some (sa', br', ba', st', w1, w2, m, 0) ∧ (∀ j, 0 ≤ j → j ≤ m → sa' j = qCt (qK0 k) j) ∧ (∀ h, 0 ≤ h → h < 4 → br' h = 0 ∧ st' h = 0) := by
  have H1 : ∃ q, zlp (fun z => f_X1_begin_L23 k x y o m br ba st w1 w2 0 z.1 z.2.1 z.2.2) zFU (0, sa, 0) = some q ∧ ((∀ j, 0 ≤ j → j ≤ m → q.2.1 j = qCt (qK0 k) j) ∧ q.2.2 = m) := by
    refine zlp_for (fun s : Int × (Int → Int) × Int => s.1) (lo := 0) (hi := m) (fun j s => (∀ i, 0 ≤ i → i ≤ j → s.2.1 i = qCt (qK0 k) i) ∧ s.2.2 = j) _ hm.1 (by omega) ?_ ?_ (0, sa, 0) rfl ⟨fun i i0 i1 => by rw [show i = 0 by omega, qCt_0]; exact hs, rfl⟩
    · intro s h0 h1 hR
      obtain ⟨j, a, c⟩ := s
      replace h0 : 0 ≤ j := h0
      replace h1 : j < m := h1
      obtain ⟨hR, hc2⟩ := hR
      replace hR : ∀ i, 0 ≤ i → i ≤ j → a i = qCt (qK0 k) i := hR
      replace hc2 : c = j := hc2
      subst hc2
      have hkj := hk c h0 h1
      have hex : f_X1_begin_L23 k x y o m br ba st w1 w2 0 c a c = some (.inl (c + 1, zup a (c + 1) (a c + qK0 k c), c + 1)) := by
        unfold f_X1_begin_L23 qK0
        rw [pE_told (by omega) (by omega), if_pos rfl]
        by_cases d : k c = 0
        · rw [if_pos d]
          simp (disch := omega) only [zck_t, if_pos, if_neg, zb1_e]
          unfold f_X1_begin_L23_59
          simp (disch := omega) only [zck_t, zlt]
        · rw [if_neg d]
          simp (disch := omega) only [zck_t, if_neg, zb1_e]
          unfold f_X1_begin_L23_59
          simp (disch := omega) only [zck_t, zlt]
      refine ⟨_, hex, rfl, ?_, rfl⟩
      intro i i0 i1
      show zup a (c + 1) (a c + qK0 k c) i = _
      by_cases d : i = c + 1
      · rw [d, zup_s, qCt_s h0, hR c h0 (Int.le_refl _)]
      · rw [zup_n d, hR i i0 (by replace i1 : i ≤ c + 1 := i1; omega)]
    · intro s h0 hR
      obtain ⟨j, a, c⟩ := s
      replace h0 : j = m := h0
      refine ⟨(j, a, c), ?_, hR⟩
      show f_X1_begin_L23 k x y o m br ba st w1 w2 0 j a c = _
      unfold f_X1_begin_L23
      simp (disch := omega) only [zck_t, if_pos]
  obtain ⟨⟨j1, sa', c1⟩, e1, g1, g2⟩ := H1
  replace g1 : ∀ j, 0 ≤ j → j ≤ m → sa' j = qCt (qK0 k) j := g1
  replace g2 : c1 = m := g2
  subst g2
  have H2 : ∃ q, zlp (fun z => f_X1_begin_L97 k x y o c1 sa' w1 w2 c1 0 z.1 z.2.1 z.2.2.1 z.2.2.2) zFU (0, br, ba, st) = some q ∧ (∀ h, 0 ≤ h → h < 4 → q.2.1 h = 0 ∧ q.2.2.2 h = 0) := by
    refine zlp_for (fun s : Int × (Int → Int) × (Int → Int) × (Int → Int) => s.1) (lo := 0) (hi := 4) (fun j s => ∀ h, 0 ≤ h → h < j → s.2.1 h = 0 ∧ s.2.2.2 h = 0) _ (by decide) (by decide) ?_ ?_ (0, br, ba, st) rfl (fun h a b => by omega)
    · intro s h0 h1 hR
      obtain ⟨j, a, b, c⟩ := s
      replace h0 : 0 ≤ j := h0
      replace h1 : j < 4 := h1
      replace hR : ∀ h, 0 ≤ h → h < j → a h = 0 ∧ c h = 0 := hR
      refine ⟨(j + 1, zup a j 0, zup b j 0, zup c j 0), ?_, rfl, fun h g0 g1 => ?_⟩
      · show f_X1_begin_L97 k x y o c1 sa' w1 w2 c1 0 j a b c = _
        unfold f_X1_begin_L97
        simp (disch := omega) only [zck_t, if_neg, zlt]
      · show zup a j 0 h = 0 ∧ zup c j 0 h = 0
        replace g1 : h < j + 1 := g1
        by_cases d : h = j
        · rw [d, zup_s, zup_s]
          exact ⟨rfl, rfl⟩
        · rw [zup_n d, zup_n d]
          exact hR h g0 (by omega)
    · intro s h0 hR
      obtain ⟨j, a, b, c⟩ := s
      replace h0 : j = 4 := h0
      refine ⟨(j, a, b, c), ?_, hR⟩
      show f_X1_begin_L97 k x y o c1 sa' w1 w2 c1 0 j a b c = _
      unfold f_X1_begin_L97
      simp (disch := omega) only [zck_t, if_pos]
  obtain ⟨⟨j2, a2, b2, d2⟩, e2, g3⟩ := H2
  refine ⟨sa', a2, b2, d2, ?_, g1, g3⟩
  unfold f_X1_begin
  rw [e1]
  show f_X1_begin_94 k x y o c1 sa' br ba st w1 w2 c1 0 = _
  unfold f_X1_begin_94
  rw [e2]
  rfl
