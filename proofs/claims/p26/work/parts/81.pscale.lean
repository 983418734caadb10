/-! ===== scale and field ===== -/
theorem pE_to {x p : Int} (hx : 0 ≤ x ∧ x ≤ 31) (hp : 1 ≤ p ∧ p ≤ 400) : (0 ≤ x * p ∧ x * p ≤ 12400) ∧ Int.tdiv (x * p) 100 = x * p / 100 := by
  have h0 : 0 ≤ x * p := Int.mul_nonneg hx.1 (by omega)
  have h1 : x * p ≤ 31 * 400 := Int.mul_le_mul hx.2 hp.2 (by omega) (by omega)
  exact ⟨⟨h0, by omega⟩, Int.tdiv_eq_ediv_of_nonneg h0⟩
theorem pE_max {x y p : Int} (hx : 0 ≤ x ∧ x ≤ 31) (hy : 0 ≤ y ∧ y ≤ 31) (hp : 1 ≤ p ∧ p ≤ 400) : (max x y * p / 100 < 32 ↔ (x * p / 100 < 32 ∧ y * p / 100 < 32)) := by
  by_cases c : x ≤ y
  · rw [show max x y = y by omega]
    have := Int.mul_le_mul_of_nonneg_right c (show 0 ≤ p by omega)
    constructor
    · intro h
      omega
    · intro h
      exact h.2
  · rw [show max x y = x by omega]
    have := Int.mul_le_mul_of_nonneg_right (show y ≤ x by omega) (show 0 ≤ p by omega)
    constructor
    · intro h
      omega
    · intro h
      exact h.1
theorem pE_resizeC {c p dr : Int} {cx cy : Int → Int} (hc : 0 ≤ c ∧ c ≤ 8) (hp : 1 ≤ p ∧ p ≤ 400) (hb : qIn cx cy c) : ∃ cx' cy', f_X0_resize cx cy c dr p = some (cx', cy', 0) ∧ ∀ i, 0 ≤ i → i < c → cx' i = cx i * p / 100 ∧ cy' i = cy i * p / 100 := by
  have H : ∃ q, zlp (fun z => f_X0_resize_L2 c dr p z.1 z.2.1 z.2.2) zFU (0, cx, cy) = some q ∧ ∀ i, 0 ≤ i → i < c → q.2.1 i = cx i * p / 100 ∧ q.2.2 i = cy i * p / 100 := by
    refine zlp_for (fun s : Int × (Int → Int) × (Int → Int) => s.1) (lo := 0) (hi := c) (fun j s => ∀ i, 0 ≤ i → i < c → s.2.1 i = (if i < j then cx i * p / 100 else cx i) ∧ s.2.2 i = (if i < j then cy i * p / 100 else cy i)) _ hc.1 (by omega) ?_ ?_ (0, cx, cy) rfl (fun i a b => by rw [if_neg (by omega), if_neg (by omega)]; exact ⟨rfl, rfl⟩)
    · intro s h0 h1 hR
      obtain ⟨j, a, b⟩ := s
      replace h0 : 0 ≤ j := h0
      replace h1 : j < c := h1
      replace hR : ∀ i, 0 ≤ i → i < c → a i = (if i < j then cx i * p / 100 else cx i) ∧ b i = (if i < j then cy i * p / 100 else cy i) := hR
      have hbs := hb j h0 h1
      have hx := pE_to (p := p) hbs.1 hp
      have hy := pE_to (p := p) hbs.2 hp
      obtain ⟨g1, g2⟩ := hR j h0 h1
      rw [if_neg (by omega)] at g1 g2
      refine ⟨(j + 1, zup a j (cx j * p / 100), zup b j (cy j * p / 100)), ?_, rfl, fun i i0 i1 => ?_⟩
      · show f_X0_resize_L2 c dr p j a b = _
        unfold f_X0_resize_L2
        simp only [zlt]
        rw [g1, g2, hx.2, hy.2]
        simp (disch := omega) only [zck_t, if_neg]
      · show zup a j (cx j * p / 100) i = (if i < j + 1 then _ else _) ∧ zup b j (cy j * p / 100) i = (if i < j + 1 then _ else _)
        by_cases d : i = j
        · rw [d, zup_s, zup_s, if_pos (by omega), if_pos (by omega)]
          exact ⟨rfl, rfl⟩
        · rw [zup_n d, zup_n d]
          obtain ⟨k1, k2⟩ := hR i i0 i1
          by_cases d2 : i < j
          · rw [if_pos d2] at k1 k2
            rw [if_pos (by omega), if_pos (by omega)]
            exact ⟨k1, k2⟩
          · rw [if_neg d2] at k1 k2
            rw [if_neg (by omega), if_neg (by omega)]
            exact ⟨k1, k2⟩
    · intro s h0 hR
      obtain ⟨j, a, b⟩ := s
      replace h0 : j = c := h0
      refine ⟨(j, a, b), ?_, fun i i0 i1 => ?_⟩
      · show f_X0_resize_L2 c dr p j a b = _
        unfold f_X0_resize_L2
        simp (disch := omega) only [zck_t, if_pos]
      · have := hR i i0 i1
        rw [if_pos i1, if_pos i1] at this
        exact this
  obtain ⟨⟨j, a, b⟩, e, hq⟩ := H
  refine ⟨a, b, ?_, hq⟩
  unfold f_X0_resize
  rw [e]
  rfl
theorem zck_T {α : Type} {e : Option α} {h : Decidable True} : zck True e = e := zck_t trivial
