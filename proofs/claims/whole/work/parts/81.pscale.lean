/-! ===== scale and field ===== -/
theorem pE_to {x p : Int} (hx : 0 ≤ x ∧ x ≤ 31) (hp : 1 ≤ p ∧ p ≤ 400) : (0 ≤ x * p ∧ x * p ≤ 12400) ∧ Int.tdiv (x * p) 100 = x * p / 100 := by
  have h0 : 0 ≤ x * p := Int.mul_nonneg hx.1 (by omega)
  have h1 : x * p ≤ 31 * 400 := Int.mul_le_mul hx.2 hp.2 (by omega) (by omega)
  exact ⟨⟨h0, by omega⟩, Int.tdiv_eq_ediv_of_nonneg h0⟩
theorem pE_max {x y p : Int} (hx : 0 ≤ x ∧ x ≤ 31) (hy : 0 ≤ y ∧ y ≤ 31) (hp : 1 ≤ p ∧ p ≤ 400) : (max x y * p / 100 < 32 ↔ (x * p / 100 < 32 ∧ y * p / 100 < 32)) := by
  by_cases c : x ≤ y
  · rw [show max x y = y by omega]
    have := Int.mul_le_mul_of_nonneg_right c (show 0 ≤ p by omega)
    constructor
    · intro h
      omega
    · intro h
      exact h.2
  · rw [show max x y = x by omega]
    have := Int.mul_le_mul_of_nonneg_right (show y ≤ x by omega) (show 0 ≤ p by omega)
    constructor
    · intro h
      omega
    · intro h
      exact h.1
theorem pE_scales {n f c p kn thr : Int} {cx cy mco mcX mcY : Int → Int} (hf : 0 ≤ f ∧ f < 8) (hc : 0 ≤ c ∧ c ≤ 8) (hp : 1 ≤ p ∧ p ≤ 400) (hb : qIn cx cy c) (hm : qCor f c cx cy mco mcX mcY) : (∃ j, f_X0_canResize cx cy c p = some 1 ∧ zlp (fun z => f_X7_scale_L35 n mco mcX mcY kn thr f p z.1 z.2) zFU (1, 0) = some (1, j) ∧ ∀ i, 0 ≤ i → i < c → cx i * p / 100 < 32 ∧ cy i * p / 100 < 32) ∨ (∃ j, f_X0_canResize cx cy c p = some 0 ∧ zlp (fun z => f_X7_scale_L35 n mco mcX mcY kn thr f p z.1 z.2) zFU (1, 0) = some (0, j)) := by
  obtain ⟨hco, hxy⟩ := hm
  by_cases C : ∀ i, 0 ≤ i → i < c → cx i * p / 100 < 32 ∧ cy i * p / 100 < 32
  · left
    have H1 : ∃ q, zlp (fun z => f_X0_canResize_L2 cx cy c p z) zFU 0 = some q ∧ (∃ v, q = .inl v) := by
      refine zlp_for (fun s : Int => s) (lo := 0) (hi := c) (fun _ _ => True) _ hc.1 (by omega) ?_ ?_ 0 rfl trivial
      · intro s h0 h1 _
        have hbs := hb s h0 h1
        have hmx := pE_to (x := max (cx s) (cy s)) (p := p) (by omega) hp
        have hlt := (pE_max hbs.1 hbs.2 hp).2 (C s h0 h1)
        refine ⟨s + 1, ?_, rfl, trivial⟩
        show f_X0_canResize_L2 cx cy c p s = _
        unfold f_X0_canResize_L2
        simp only [zlt]
        rw [hmx.2]
        simp (disch := omega) only [zck_t, if_pos, if_neg]
      · intro s h0 _
        refine ⟨.inl s, ?_, s, rfl⟩
        show f_X0_canResize_L2 cx cy c p s = _
        unfold f_X0_canResize_L2
        simp (disch := omega) only [zck_t, if_pos]
    obtain ⟨q, e1, v, rfl⟩ := H1
    have H2 : ∃ q, zlp (fun z => f_X7_scale_L35 n mco mcX mcY kn thr f p z.1 z.2) zFU (1, 0) = some q ∧ q.1 = 1 := by
      refine zlp_for (fun s : Int × Int => s.2) (lo := 0) (hi := c) (fun _ s => s.1 = 1) _ hc.1 (by omega) ?_ ?_ (1, 0) rfl rfl
      · intro s h0 h1 hR
        obtain ⟨x, j⟩ := s
        replace h0 : 0 ≤ j := h0
        replace h1 : j < c := h1
        replace hR : x = 1 := hR
        subst hR
        have hbs := hb j h0 h1
        have hx := pE_to (p := p) hbs.1 hp
        have hy := pE_to (p := p) hbs.2 hp
        have hC := C j h0 h1
        obtain ⟨g1, g2⟩ := hxy j h0 h1
        refine ⟨(1, j + 1), ?_, rfl, rfl⟩
        show f_X7_scale_L35 n mco mcX mcY kn thr f p 1 j = _
        unfold f_X7_scale_L35
        simp only [zlt]
        rw [hco, g1, g2, hx.2, hy.2]
        simp (disch := omega) only [zck_t, if_neg]
      · intro s h0 hR
        obtain ⟨x, j⟩ := s
        replace h0 : j = c := h0
        refine ⟨(x, j), ?_, hR⟩
        show f_X7_scale_L35 n mco mcX mcY kn thr f p x j = _
        unfold f_X7_scale_L35
        rw [hco]
        simp (disch := omega) only [zck_t, if_pos]
    obtain ⟨⟨x, j⟩, e2, hq⟩ := H2
    replace hq : x = 1 := hq
    subst hq
    refine ⟨j, ?_, e2, C⟩
    unfold f_X0_canResize
    rw [e1]
    rfl
  · right
    have hg : ∃ g, (0 ≤ g ∧ g < c) ∧ ¬ (cx g * p / 100 < 32 ∧ cy g * p / 100 < 32) := by
      refine Classical.byContradiction fun hn => C fun g g0 g1 => ?_
      exact Classical.byContradiction fun z => hn ⟨g, ⟨g0, g1⟩, z⟩
    obtain ⟨g, ⟨g0, g1⟩, hg⟩ := hg
    have H1 : ∃ q, zlp (fun z => f_X0_canResize_L2 cx cy c p z) zFU 0 = some q ∧ q = .inr 0 := by
      refine zlp_for2 (fun s : Int => s) (lo := 0) (hi := c) (fun j _ => j ≤ g) _ hc.1 (by omega) ?_ ?_ 0 rfl g0
      · intro s h0 h1 hR
        have hbs := hb s h0 h1
        have hmx := pE_to (x := max (cx s) (cy s)) (p := p) (by omega) hp
        have hiff := pE_max hbs.1 hbs.2 hp
        by_cases d : max (cx s) (cy s) * p / 100 < 32
        · left
          refine ⟨s + 1, ?_, rfl, ?_⟩
          · show f_X0_canResize_L2 cx cy c p s = _
            unfold f_X0_canResize_L2
            simp only [zlt]
            rw [hmx.2]
            simp (disch := omega) only [zck_t, if_pos, if_neg]
          · show s + 1 ≤ g
            replace hR : s ≤ g := hR
            rcases Int.lt_or_le s g with z | z
            · omega
            · have : s = g := by omega
              subst this
              exact absurd (hiff.1 d) hg
        · right
          refine ⟨.inr 0, ?_, rfl⟩
          show f_X0_canResize_L2 cx cy c p s = _
          unfold f_X0_canResize_L2
          simp only [zlt]
          rw [hmx.2]
          simp (disch := omega) only [zck_t, if_neg]
      · intro s h0 hR
        replace hR : c ≤ g := hR
        omega
    obtain ⟨q, e1, rfl⟩ := H1
    have H2 : ∃ q, zlp (fun z => f_X7_scale_L35 n mco mcX mcY kn thr f p z.1 z.2) zFU (1, 0) = some q ∧ q.1 = 0 := by
      refine zlp_for (fun s : Int × Int => s.2) (lo := 0) (hi := c) (fun j s => (s.1 = 0 ∨ s.1 = 1) ∧ (g < j → s.1 = 0)) _ hc.1 (by omega) ?_ ?_ (1, 0) rfl ⟨Or.inr rfl, fun z => by omega⟩
      · intro s h0 h1 hR
        obtain ⟨x, j⟩ := s
        replace h0 : 0 ≤ j := h0
        replace h1 : j < c := h1
        replace hR : (x = 0 ∨ x = 1) ∧ (g < j → x = 0) := hR
        have hbs := hb j h0 h1
        have hx := pE_to (p := p) hbs.1 hp
        have hy := pE_to (p := p) hbs.2 hp
        obtain ⟨g3, g4⟩ := hxy j h0 h1
        show ∃ s', f_X7_scale_L35 n mco mcX mcY kn thr f p x j = some (.inl s') ∧ _
        unfold f_X7_scale_L35
        simp only [zlt]
        rw [hco, g3, g4, hx.2, hy.2]
        rcases hR.1 with q | q
        · refine ⟨(0, j + 1), ?_, rfl, Or.inl rfl, fun z => rfl⟩
          simp (disch := omega) only [zck_t, if_neg, if_pos]
        · by_cases d1 : cx j * p / 100 < 32
          · by_cases d2 : cy j * p / 100 < 32
            · refine ⟨(1, j + 1), ?_, rfl, Or.inr rfl, fun z => ?_⟩
              · simp (disch := omega) only [zck_t, if_neg]
              · exfalso
                replace z : g < j + 1 := z
                rcases Int.lt_or_le g j with z2 | z2
                · have := hR.2 z2
                  omega
                · have : j = g := by omega
                  subst this
                  exact hg ⟨d1, d2⟩
            · refine ⟨(0, j + 1), ?_, rfl, Or.inl rfl, fun z => rfl⟩
              simp (disch := omega) only [zck_t, if_neg, if_pos]
          · refine ⟨(0, j + 1), ?_, rfl, Or.inl rfl, fun z => rfl⟩
            simp (disch := omega) only [zck_t, if_neg, if_pos]
      · intro s h0 hR
        obtain ⟨x, j⟩ := s
        replace h0 : j = c := h0
        refine ⟨(x, j), ?_, hR.2 g1⟩
        show f_X7_scale_L35 n mco mcX mcY kn thr f p x j = _
        unfold f_X7_scale_L35
        rw [hco]
        simp (disch := omega) only [zck_t, if_pos]
    obtain ⟨⟨x, j⟩, e2, hq⟩ := H2
    replace hq : x = 0 := hq
    subst hq
    refine ⟨j, ?_, e2⟩
    unfold f_X0_canResize
    rw [e1]
    rfl
theorem pE_resizeC {c p dr : Int} {cx cy : Int → Int} (hc : 0 ≤ c ∧ c ≤ 8) (hp : 1 ≤ p ∧ p ≤ 400) (hb : qIn cx cy c) : ∃ cx' cy', f_X0_resize cx cy c dr p = some (cx', cy', 0) ∧ ∀ i, 0 ≤ i → i < c → cx' i = cx i * p / 100 ∧ cy' i = cy i * p / 100 := by
  have H : ∃ q, zlp (fun z => f_X0_resize_L2 c dr p z.1 z.2.1 z.2.2) zFU (0, cx, cy) = some q ∧ ∀ i, 0 ≤ i → i < c → q.2.1 i = cx i * p / 100 ∧ q.2.2 i = cy i * p / 100 := by
    refine zlp_for (fun s : Int × (Int → Int) × (Int → Int) => s.1) (lo := 0) (hi := c) (fun j s => ∀ i, 0 ≤ i → i < c → s.2.1 i = (if i < j then cx i * p / 100 else cx i) ∧ s.2.2 i = (if i < j then cy i * p / 100 else cy i)) _ hc.1 (by omega) ?_ ?_ (0, cx, cy) rfl (fun i a b => by rw [if_neg (by omega), if_neg (by omega)]; exact ⟨rfl, rfl⟩)
    · intro s h0 h1 hR
      obtain ⟨j, a, b⟩ := s
      replace h0 : 0 ≤ j := h0
      replace h1 : j < c := h1
      replace hR : ∀ i, 0 ≤ i → i < c → a i = (if i < j then cx i * p / 100 else cx i) ∧ b i = (if i < j then cy i * p / 100 else cy i) := hR
      have hbs := hb j h0 h1
      have hx := pE_to (p := p) hbs.1 hp
      have hy := pE_to (p := p) hbs.2 hp
      obtain ⟨g1, g2⟩ := hR j h0 h1
      rw [if_neg (by omega)] at g1 g2
      refine ⟨(j + 1, zup a j (cx j * p / 100), zup b j (cy j * p / 100)), ?_, rfl, fun i i0 i1 => ?_⟩
      · show f_X0_resize_L2 c dr p j a b = _
        unfold f_X0_resize_L2
        simp only [zlt]
        rw [g1, g2, hx.2, hy.2]
        simp (disch := omega) only [zck_t, if_neg]
      · show zup a j (cx j * p / 100) i = (if i < j + 1 then _ else _) ∧ zup b j (cy j * p / 100) i = (if i < j + 1 then _ else _)
        by_cases d : i = j
        · rw [d, zup_s, zup_s, if_pos (by omega), if_pos (by omega)]
          exact ⟨rfl, rfl⟩
        · rw [zup_n d, zup_n d]
          obtain ⟨k1, k2⟩ := hR i i0 i1
          by_cases d2 : i < j
          · rw [if_pos d2] at k1 k2
            rw [if_pos (by omega), if_pos (by omega)]
            exact ⟨k1, k2⟩
          · rw [if_neg d2] at k1 k2
            rw [if_neg (by omega), if_neg (by omega)]
            exact ⟨k1, k2⟩
    · intro s h0 hR
      obtain ⟨j, a, b⟩ := s
      replace h0 : j = c := h0
      refine ⟨(j, a, b), ?_, fun i i0 i1 => ?_⟩
      · show f_X0_resize_L2 c dr p j a b = _
        unfold f_X0_resize_L2
        simp (disch := omega) only [zck_t, if_pos]
      · have := hR i i0 i1
        rw [if_pos i1, if_pos i1] at this
        exact this
  obtain ⟨⟨j, a, b⟩, e, hq⟩ := H
  refine ⟨a, b, ?_, hq⟩
  unfold f_X0_resize
  rw [e]
  rfl
theorem pE_resizeM {n f c p kn thr : Int} {cx cy mco mcX mcY : Int → Int} (hf : 0 ≤ f ∧ f < 8) (hc : 0 ≤ c ∧ c ≤ 8) (hp : 1 ≤ p ∧ p ≤ 400) (hb : qIn cx cy c) (hm : qCor f c cx cy mco mcX mcY) : ∃ j a b, zlp (fun z => f_X7_scale_L118 n mco kn thr f p z.1 z.2.1 z.2.2) zFU (0, mcX, mcY) = some (j, a, b) ∧ (∀ i, 0 ≤ i → i < c → a (8 * f + i) = cx i * p / 100 ∧ b (8 * f + i) = cy i * p / 100) ∧ (∀ v, (v < 8 * f ∨ 8 * f + 8 ≤ v) → a v = mcX v ∧ b v = mcY v) := by
  obtain ⟨hco, hxy⟩ := hm
  have H : ∃ q, zlp (fun z => f_X7_scale_L118 n mco kn thr f p z.1 z.2.1 z.2.2) zFU (0, mcX, mcY) = some q ∧ ((∀ i, 0 ≤ i → i < c → q.2.1 (8 * f + i) = cx i * p / 100 ∧ q.2.2 (8 * f + i) = cy i * p / 100) ∧ (∀ v, (v < 8 * f ∨ 8 * f + 8 ≤ v) → q.2.1 v = mcX v ∧ q.2.2 v = mcY v)) := by
    refine zlp_for (fun s : Int × (Int → Int) × (Int → Int) => s.1) (lo := 0) (hi := c) (fun j s => (∀ i, 0 ≤ i → i < c → s.2.1 (8 * f + i) = (if i < j then cx i * p / 100 else cx i) ∧ s.2.2 (8 * f + i) = (if i < j then cy i * p / 100 else cy i)) ∧ (∀ v, (v < 8 * f ∨ 8 * f + 8 ≤ v) → s.2.1 v = mcX v ∧ s.2.2 v = mcY v)) _ hc.1 (by omega) ?_ ?_ (0, mcX, mcY) rfl ⟨fun i a b => by rw [if_neg (by omega), if_neg (by omega)]; exact hxy i a b, fun v _ => ⟨rfl, rfl⟩⟩
    · intro s h0 h1 hR
      obtain ⟨j, a, b⟩ := s
      replace h0 : 0 ≤ j := h0
      replace h1 : j < c := h1
      obtain ⟨hR, hO⟩ := hR
      replace hR : ∀ i, 0 ≤ i → i < c → a (8 * f + i) = (if i < j then cx i * p / 100 else cx i) ∧ b (8 * f + i) = (if i < j then cy i * p / 100 else cy i) := hR
      replace hO : ∀ v, (v < 8 * f ∨ 8 * f + 8 ≤ v) → a v = mcX v ∧ b v = mcY v := hO
      have hbs := hb j h0 h1
      have hx := pE_to (p := p) hbs.1 hp
      have hy := pE_to (p := p) hbs.2 hp
      obtain ⟨g1, g2⟩ := hR j h0 h1
      rw [if_neg (by omega)] at g1 g2
      refine ⟨(j + 1, zup a (8 * f + j) (cx j * p / 100), zup b (8 * f + j) (cy j * p / 100)), ?_, rfl, fun i i0 i1 => ?_, fun v hv => ?_⟩
      · show f_X7_scale_L118 n mco kn thr f p j a b = _
        unfold f_X7_scale_L118
        simp only [zlt]
        rw [hco, g1, g2, hx.2, hy.2]
        simp (disch := omega) only [zck_t, if_neg]
      · show zup a (8 * f + j) (cx j * p / 100) (8 * f + i) = (if i < j + 1 then _ else _) ∧ zup b (8 * f + j) (cy j * p / 100) (8 * f + i) = (if i < j + 1 then _ else _)
        by_cases d : i = j
        · rw [d, zup_s, zup_s, if_pos (by omega), if_pos (by omega)]
          exact ⟨rfl, rfl⟩
        · rw [zup_n (show 8 * f + i ≠ 8 * f + j by omega), zup_n (show 8 * f + i ≠ 8 * f + j by omega)]
          obtain ⟨k1, k2⟩ := hR i i0 i1
          by_cases d2 : i < j
          · rw [if_pos d2] at k1 k2
            rw [if_pos (by omega), if_pos (by omega)]
            exact ⟨k1, k2⟩
          · rw [if_neg d2] at k1 k2
            rw [if_neg (by omega), if_neg (by omega)]
            exact ⟨k1, k2⟩
      · show zup a (8 * f + j) (cx j * p / 100) v = mcX v ∧ zup b (8 * f + j) (cy j * p / 100) v = mcY v
        rw [zup_n (show v ≠ 8 * f + j by omega), zup_n (show v ≠ 8 * f + j by omega)]
        exact hO v hv
    · intro s h0 hR
      obtain ⟨j, a, b⟩ := s
      replace h0 : j = c := h0
      refine ⟨(j, a, b), ?_, fun i i0 i1 => ?_, hR.2⟩
      · show f_X7_scale_L118 n mco kn thr f p j a b = _
        unfold f_X7_scale_L118
        rw [hco]
        simp (disch := omega) only [zck_t, if_pos]
      · have := hR.1 i i0 i1
        rw [if_pos i1, if_pos i1] at this
        exact this
  obtain ⟨⟨j, a, b⟩, e, hq⟩ := H
  exact ⟨j, a, b, e, hq⟩
theorem pA_scale {n bd pl kn m nc t w1 w2 : Int} {sec : UInt32} {la co cl cc de le sh pu un mcol mla mic mco mcX mcY mde mlo msh mpu mhu dr sz k x y o kc th mk mx my mo : Int → Int} {fx fy xs ys : Int → Int → Int} (hA : qA n bd la co cl cc fx fy de le sh pu un mcol mla mic mco mcX mcY mde mlo msh mpu mhu pl dr xs ys sz k x y o kc th m sec kn mk mx my mo nc) (hw : zR w1 ∧ zR w2) : ∃ pl' fx' fy' dr' mcX' mcY' kn' u, f_law_scale n pl fx fy cc dr n mco mcX mcY kn t n w1 w2 = some (pl', fx', fy', dr', mcX', mcY', kn', u) ∧ qA n bd la co cl cc fx' fy' de le sh pu un mcol mla mic mco mcX' mcY' mde mlo msh mpu mhu pl' dr' xs ys sz k x y o kc th m sec kn' mk mx my mo nc := by
  have hA0 := hA
  obtain ⟨⟨s1, s2, s3, s4⟩, hz, ⟨hD, -⟩, -⟩ := hA
  have hn := s1.1
  unfold f_law_scale f_L_scale f_X6_scale f_X7_scale f_X7_thrown
  rw [pE_isField hn (by omega), pE_numbered hn (by omega), pE_in (by omega), pE_within (by omega)]
  by_cases c1 : 0 ≤ w1 ∧ w1 ≤ n - 1
  · by_cases c2 : 1 ≤ w2 ∧ w2 ≤ 400
    · obtain ⟨f1, f2, f3, f4, f5⟩ := s2 w1 (by omega) (by omega)
      obtain ⟨m1, m2, m3, m5, m6⟩ := s3 w1 (by omega) (by omega)
      rcases pE_scales (n := n) (kn := kn) (thr := 0) (show 0 ≤ w1 ∧ w1 < 8 by omega) f2 c2 f4 m3 with ⟨j, e1, e2, hC⟩ | ⟨j, e1, e2⟩
      · obtain ⟨cx', cy', e3, hx⟩ := pE_resizeC (dr := dr w1) f2 c2 f4
        obtain ⟨j2, a, b, e4, hy, hO⟩ := pE_resizeM (n := n) (kn := kn) (thr := 0) (show 0 ≤ w1 ∧ w1 < 8 by omega) f2 c2 f4 m3
        refine ⟨0, zup fx w1 cx', zup fy w1 cy', zup dr w1 0, a, b, 0, 0, ?_, ⟨s1, ?_, ?_, s4⟩, hz, ⟨qDr_ch hD ?_, Or.inl rfl⟩, Or.inl rfl⟩
        · simp (disch := omega) only [zck_t, e1, e3, if_pos, if_neg, if_true, if_false, not_true_eq_false, not_false_eq_true, zb1_e, zb2_e, zb3_e, zb4_e, zb5_e, zlt, pE_asks1]
          rw [e2]
          simp (disch := omega) only [zck_t, if_pos, if_neg, if_true, if_false, not_true_eq_false, not_false_eq_true, zb1_e, zb2_e, zb3_e, zb4_e, zb5_e]
          rw [e4]
          simp (disch := omega) only [zck_t, if_pos, if_neg, if_true, if_false, not_true_eq_false, not_false_eq_true, zb1_e, zb2_e, zb3_e, zb4_e, zb5_e]
        · intro i i0 i1
          by_cases c : i = w1
          · subst c
            rw [zup_s, zup_s]
            refine ⟨f1, f2, f3, fun v v0 v1 => ?_, f5⟩
            have hb := f4 v v0 v1
            have hc := hC v v0 v1
            have p1 := pE_to hb.1 c2
            have p2 := pE_to hb.2 c2
            rw [(hx v v0 v1).1, (hx v v0 v1).2]
            omega
          · rw [zup_n c, zup_n c]
            exact s2 i i0 i1
        · intro i i0 i1
          by_cases c : i = w1
          · subst c
            refine ⟨m1, m2, ⟨m3.1, ?_⟩, m5, m6⟩
            rw [zup_s, zup_s]
            intro v v0 v1
            rw [(hx v v0 v1).1, (hx v v0 v1).2]
            exact hy v v0 v1
          · have g2 := (s2 i i0 i1).2.1
            obtain ⟨k1, k2, ⟨k3, k4⟩, k5, k6⟩ := s3 i i0 i1
            refine ⟨k1, k2, ⟨k3, ?_⟩, k5, k6⟩
            rw [zup_n c, zup_n c]
            intro v v0 v1
            have := hO (8 * i + v) (by omega)
            rw [this.1, this.2]
            exact k4 v v0 v1
        · intro i i0 i1 c
          show qPts _ _ _ _ _ _ _ _ _ = qPts _ _ _ _ _ _ _ _ _
          rw [zup_n c, zup_n c]
      · refine ⟨pl, fx, fy, dr, mcX, mcY, kn, 3, ?_, hA0⟩
        simp (disch := omega) only [zck_t, e1, if_pos, if_neg, if_true, if_false, not_true_eq_false, not_false_eq_true, zb1_e, zb2_e, zb3_e, zb4_e, zb5_e, zlt, pE_asks1]
        rw [e2]
        simp (disch := omega) only [zck_t, if_pos, if_neg, if_true, if_false, not_true_eq_false, not_false_eq_true, zb1_e, zb2_e, zb3_e, zb4_e, zb5_e]
    · refine ⟨pl, fx, fy, dr, mcX, mcY, kn, 2, ?_, hA0⟩
      simp (disch := omega) only [zck_t, if_pos, if_neg, if_true, if_false, not_true_eq_false, not_false_eq_true, zb1_e, zb2_e, zb4_e, zb5_e, pE_asks1]
  · refine ⟨pl, fx, fy, dr, mcX, mcY, kn, 1, ?_, hA0⟩
    simp (disch := omega) only [zck_t, if_pos, if_neg, if_true, if_false, not_true_eq_false, not_false_eq_true, zb1_e, zb2_e, zb4_e, zb5_e, pE_asks0]
theorem zck_T {α : Type} {e : Option α} {h : Decidable True} : zck True e = e := zck_t trivial
theorem pA_field {n bd pl kn m nc t out w1 w2 w3 : Int} {sec : UInt32} {la co cl cc cn de le sh pu un mcol mla mic mco mcX mcY mde mlo msh mpu mhu dr sz k x y o kc th mk mx my mo : Int → Int} {fx fy cr xs ys : Int → Int → Int} (hA : qA n bd la co cl cc fx fy de le sh pu un mcol mla mic mco mcX mcY mde mlo msh mpu mhu pl dr xs ys sz k x y o kc th m sec kn mk mx my mo nc) (hw : zR w1 ∧ zR w2) : ∃ (n' pl' : Int) (co' la' cl' : Int → Int) (fx' fy' cr' : Int → Int → Int) (cc' cn' de' le' sh' pu' un' dr' : Int → Int) (xs' ys' : Int → Int → Int) (sz' mcol' mla' mic' mde' mlo' : Int → Int) (kn' u out' : Int), f_law_field n pl co la cl fx fy cr cc cn de le sh pu un dr xs ys sz n n mcol mla mic mde mlo kn t out w1 w2 w3 = some (n', pl', co', la', cl', fx', fy', cr', cc', cn', de', le', sh', pu', un', dr', xs', ys', sz', n', n', mcol', mla', mic', mde', mlo', kn', u, out') ∧ qA n' bd la' co' cl' cc' fx' fy' de' le' sh' pu' un' mcol' mla' mic' mco mcX mcY mde' mlo' msh mpu mhu pl' dr' xs' ys' sz' k x y o kc th m sec kn' mk mx my mo nc := by
  have hA0 := hA
  obtain ⟨⟨⟨hn, s1⟩, s2, s3, s4⟩, hz, ⟨hD, -⟩, -⟩ := hA
  have hq : (if w3 = 0 then (0 : Int) else 1) = 0 ∨ (if w3 = 0 then (0 : Int) else 1) = 1 := by split <;> omega
  unfold f_law_field f_law_field2
  generalize (if w3 = 0 then (0 : Int) else 1) = q at hq ⊢
  unfold f_L_field f_X6_field f_X7_field f_X7_field_23 f_X7_field_24 f_X7_thrown
  rw [pE_in (by omega), pE_in (by omega), pE_within (by omega), pE_within (by omega)]
  by_cases c1 : 0 ≤ w1 ∧ w1 ≤ 5
  · by_cases c2 : 0 ≤ w2 ∧ w2 ≤ 3
    · by_cases c3 : n < 8
      · refine ⟨n + 1, 0, zup co n w1, zup la n w2, zup cl n q, zup fx n (fun _ => 0), zup fy n (fun _ => 0), zup cr n (fun _ => 0), zup cc n 0, zup cn n 0, zup de n 2, zup le n 6, zup sh n 0, zup pu n 0, zup un n 0, zup dr n 0, zup xs n (fun _ => 0), zup ys n (fun _ => 0), zup sz n 0, zup mcol n w1, zup mla n w2, zup mic n q, zup mde n 2, zup mlo n 6, 0, 0, n, ?_, ⟨⟨by omega, ?_⟩, ?_, ?_, s4⟩, fun i i0 i1 => hz i (by omega) i1, ⟨?_, Or.inl rfl⟩, Or.inl rfl⟩
        · have hn1 : n + 1 - 1 = n := by omega
          simp (disch := omega) only [zck_T, zck_t, if_pos, if_neg, if_true, if_false, not_true_eq_false, not_false_eq_true, zb1_e, zb2_e, zb5_e, zb8_e, zb9_e, zb22_e, zlt, pE_asks1, hn1]
        · intro i i0 i1
          by_cases c : i = n
          · subst c
            rw [zup_s, zup_s]
            omega
          · rw [zup_n c, zup_n c]
            exact s1 i i0 (by omega)
        · intro i i0 i1
          by_cases c : i = n
          · subst c
            rw [zup_s, zup_s, zup_s, zup_s, zup_s, zup_s, zup_s, zup_s, zup_s]
            exact ⟨hq, by decide, fun _ => by decide, fun v v0 v1 => by omega, by decide, by decide, by decide, by decide, Or.inl rfl⟩
          · rw [zup_n c, zup_n c, zup_n c, zup_n c, zup_n c, zup_n c, zup_n c, zup_n c, zup_n c]
            exact s2 i i0 (by omega)
        · intro i i0 i1
          by_cases c : i = n
          · subst c
            obtain ⟨z1, z2, z3, z4⟩ := hz i (by omega) (by omega)
            refine ⟨?_, ?_, ⟨?_, ?_⟩, ?_, ?_, ?_, ?_, ?_, ?_⟩
            · rw [zup_s, zup_s]
            · rw [zup_s, zup_s]
            · rw [zup_s]
              exact z1
            · intro v v0 v1
              rw [zup_s] at v1
              omega
            · rw [zup_s, zup_s]
            · rw [zup_s, zup_s]
            · rw [zup_s, zup_s]
            · rw [zup_s]
              exact z2
            · rw [zup_s]
              exact z3
            · rw [zup_s]
              exact z4
          · obtain ⟨g1, g2, ⟨g3, g3'⟩, g4, g5, g6, g7, g8, g9⟩ := s3 i i0 (by omega)
            refine ⟨?_, ?_, ⟨?_, ?_⟩, ?_, ?_, ?_, ?_, ?_, ?_⟩
            · rw [zup_n c, zup_n c]
              exact g1
            · rw [zup_n c, zup_n c]
              exact g2
            · rw [zup_n c]
              exact g3
            · rw [zup_n c, zup_n c, zup_n c]
              exact g3'
            · rw [zup_n c, zup_n c]
              exact g4
            · rw [zup_n c, zup_n c]
              exact g5
            · rw [zup_n c, zup_n c]
              exact g6
            · rw [zup_n c]
              exact g7
            · rw [zup_n c]
              exact g8
            · rw [zup_n c]
              exact g9
        · intro i i0 i1
          by_cases c : i = n
          · subst c
            rw [zup_s]
            exact ⟨Or.inl rfl, fun z => absurd z (by decide)⟩
          · have := hD i i0 (by omega)
            have hP : qPF (zup cl n q) (zup cc n 0) (zup fx n (fun _ => 0)) (zup fy n (fun _ => 0)) (zup de n 2) (zup le n 6) (zup sh n 0) (zup pu n 0) (zup un n 0) i = qPF cl cc fx fy de le sh pu un i := by
              show qPts _ _ _ _ _ _ _ _ _ = qPts _ _ _ _ _ _ _ _ _
              rw [zup_n c, zup_n c, zup_n c, zup_n c, zup_n c, zup_n c, zup_n c, zup_n c, zup_n c]
            rw [hP, zup_n c, zup_n c, zup_n c, zup_n c]
            exact this
      · refine ⟨n, pl, co, la, cl, fx, fy, cr, cc, cn, de, le, sh, pu, un, dr, xs, ys, sz, mcol, mla, mic, mde, mlo, kn, 2, out, ?_, hA0⟩
        simp (disch := omega) only [zck_t, if_pos, if_neg, if_true, if_false, not_true_eq_false, not_false_eq_true, zb1_e, zb2_e, zb5_e, zb8_e, zb9_e, zb22_e, pE_asks1, pE_fails]
    · refine ⟨n, pl, co, la, cl, fx, fy, cr, cc, cn, de, le, sh, pu, un, dr, xs, ys, sz, mcol, mla, mic, mde, mlo, kn, 1, out, ?_, hA0⟩
      simp (disch := omega) only [zck_t, if_pos, if_neg, if_true, if_false, not_true_eq_false, not_false_eq_true, zb1_e, zb2_e, zb5_e, zb8_e, zb9_e, zb22_e, pE_asks0]
  · refine ⟨n, pl, co, la, cl, fx, fy, cr, cc, cn, de, le, sh, pu, un, dr, xs, ys, sz, mcol, mla, mic, mde, mlo, kn, 1, out, ?_, hA0⟩
    simp (disch := omega) only [zck_t, if_pos, if_neg, if_true, if_false, not_true_eq_false, not_false_eq_true, zb1_e, zb2_e, zb5_e, zb8_e, zb9_e, zb22_e, pE_asks0]
