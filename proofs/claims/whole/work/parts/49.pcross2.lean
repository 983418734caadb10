/-! ===== the model's crossings ===== -/
theorem qNx_tmod {c i : Int} (h0 : 0 ≤ i) (h1 : i < c) : Int.tmod (i + 1) c = qNx c i := by
  unfold qNx
  rw [Int.tmod_eq_emod_of_nonneg (by omega)]
  split
  · exact Int.emod_eq_of_lt (by omega) (by omega)
  · rw [show i + 1 = c by omega]
    exact Int.emod_self
theorem pE_ins2 {co cX cY : Int → Int} {n f y i x : Int} : (fun z : Int × (Int → Int) => f_X7_crosses_L155 co cX cY n f y i x z.1 z.2) = (fun z => f_X0_putCrossing_L15 n x z.1 z.2) := by
  funext z
  unfold f_X7_crosses_L155 f_X0_putCrossing_L15
  rfl
/-- the model's corners of a field -/
abbrev qCor (f c : Int) (cx cy co cX cY : Int → Int) : Prop := co f = c ∧ ∀ i, 0 ≤ i → i < c → cX (8 * f + i) = cx i ∧ cY (8 * f + i) = cy i
theorem pE_crosses {cx cy co cX cY cr : Int → Int} {f c cc y : Int} (hf : 0 ≤ f ∧ f < 8) (hc : 0 ≤ c ∧ c ≤ 8) (hb : qIn cx cy c) (hm : qCor f c cx cy co cX cY) (hy : -1000 ≤ y ∧ y ≤ 1000) : ∃ a n, f_X7_crosses co cX cY cr cc f y = some (a, n) ∧ qRow a n (qCr cx cy c y) := by
  obtain ⟨hco, hcc⟩ := hm
  have H : ∃ r, zlp (fun z => f_X7_crosses_L7 co cX cY f y z.1 z.2.1 z.2.2) zFU (0, cr, 0) = some r ∧ qRow r.2.1 r.2.2 (qCr cx cy c y) := by
    refine zlp_for (fun s : Int × (Int → Int) × Int => s.1) (lo := 0) (hi := c) (fun j s => qRow s.2.1 s.2.2 (qCrP cx cy c y j)) _ hc.1 (by omega) ?_ ?_ (0, cr, 0) rfl ?_
    · intro s h0 h1 hR
      obtain ⟨i, a, n⟩ := s
      have h0 : 0 ≤ i := h0
      have h1 : i < c := h1
      have hR : qRow a n (qCrP cx cy c y i) := hR
      show ∃ s', f_X7_crosses_L7 co cX cY f y i a n = some (.inl s') ∧ _ ∧ _
      have hx := qNx_in h0 h1
      have g1 := hb i h0 h1
      have g2 := hb (qNx c i) hx.1 hx.2
      have ok := qCrP_ok (y := y) hb i.toNat (by omega)
      rw [show ((i.toNat : Nat) : Int) = i by omega] at ok
      have hnl := hR.1
      have m1 := hcc i h0 h1
      have m2 := hcc (qNx c i) hx.1 hx.2
      unfold f_X7_crosses_L7
      rw [hco, qNx_tmod h0 h1]
      unfold f_X7_crosses_L7_103 f_X7_crosses_L7_83
      by_cases hh : qHits (cy i) (cy (qNx c i)) y
      · have hx0 := qAt_in hh g1.1 g2.1
        obtain ⟨p, b, e, hp, hq⟩ := pE_insert (x := qAt (cx i) (cy i) (cx (qNx c i)) (cy (qNx c i)) y) hR ok.1 (by omega) (by omega) (fun k k0 k1 => by
          have := ok.2.1 (a k) (List.mem_iff_getElem?.mpr ⟨k.toNat, qRow_at hR k0 k1⟩)
          omega)
        have hmu := qMul_a (a := y - cy i) (b := cx (qNx c i) - cx i) (A := 31) (B := 31) (by omega) (by omega)
        have hdiv : f_X7_down ((y - cy i) * (cx (qNx c i) - cx i)) (cy (qNx c i) - cy i) = some (qFl ((y - cy i) * (cx (qNx c i) - cx i)) (cy (qNx c i) - cy i)) := by
          unfold qFl
          by_cases q : 0 < cy (qNx c i) - cy i
          · rw [if_pos q]
            exact pE_down (by omega) (by omega)
          · rw [if_neg q]
            exact pE_downN (by omega) (by omega)
        have hput : f_X7_crosses_L7_104 co cX cY a n f y i (8 * f + i) (8 * f + qNx c i) (cy i) (cy (qNx c i)) 1 = some (.inl (i + 1, zup b p (qAt (cx i) (cy i) (cx (qNx c i)) (cy (qNx c i)) y), n + 1)) := by
          unfold f_X7_crosses_L7_104
          rw [m1.1, m2.1]
          simp (disch := omega) only [zck_t, if_neg, hdiv, zb1_e, zlt]
          rw [show cx i + qFl ((y - cy i) * (cx (qNx c i) - cx i)) (cy (qNx c i) - cy i) = qAt (cx i) (cy i) (cx (qNx c i)) (cy (qNx c i)) y from rfl, pE_ins2, e]
          unfold f_X7_crosses_L7_196
          simp (disch := omega) only [zck_t, zb2_e, zlt]
        refine ⟨(i + 1, zup b p (qAt (cx i) (cy i) (cx (qNx c i)) (cy (qNx c i)) y), n + 1), ?_, rfl, ?_⟩
        · by_cases q : cy (qNx c i) ≤ cy i
          · simp (disch := omega) only [zck_t, if_pos, if_neg, zlt, m1.2, m2.2]
            exact hput
          · simp (disch := omega) only [zck_t, if_pos, if_neg, zlt, m1.2, m2.2]
            exact hput
        · show qRow _ _ (qCrP cx cy c y (i + 1))
          rw [qCrP_s h0]
          unfold qStep
          rw [if_pos hh]
          exact hq
      · have hno : f_X7_crosses_L7_104 co cX cY a n f y i (8 * f + i) (8 * f + qNx c i) (cy i) (cy (qNx c i)) 0 = some (.inl (i + 1, a, n)) := by
          unfold f_X7_crosses_L7_104
          simp (disch := omega) only [zck_t, if_pos, if_true]
        refine ⟨(i + 1, a, n), ?_, rfl, ?_⟩
        · by_cases q : cy (qNx c i) ≤ cy i
          · by_cases q2 : y < cy (qNx c i)
            · simp (disch := omega) only [zck_t, if_pos, if_neg, zlt, m1.2, m2.2]
              exact hno
            · simp (disch := omega) only [zck_t, if_pos, if_neg, zlt, m1.2, m2.2]
              exact hno
          · by_cases q2 : y < cy i
            · simp (disch := omega) only [zck_t, if_pos, if_neg, zlt, m1.2, m2.2]
              exact hno
            · simp (disch := omega) only [zck_t, if_pos, if_neg, zlt, m1.2, m2.2]
              exact hno
        · show qRow _ _ (qCrP cx cy c y (i + 1))
          rw [qCrP_s h0]
          unfold qStep
          rw [if_neg hh]
          exact hR
    · intro s h0 hR
      obtain ⟨i, a, n⟩ := s
      have h0 : i = c := h0
      have hR : qRow a n (qCrP cx cy c y c) := hR
      show ∃ r, f_X7_crosses_L7 co cX cY f y i a n = some (.inr r) ∧ _
      refine ⟨(i, a, n), ?_, hR⟩
      unfold f_X7_crosses_L7
      rw [hco]
      simp (disch := omega) only [zck_t, if_pos]
    · show qRow cr 0 (qCrP cx cy c y 0)
      rw [qCrP_0]
      exact qRow_nil _
  obtain ⟨⟨i, a, n⟩, e, hq⟩ := H
  refine ⟨a, n, ?_, hq⟩
  unfold f_X7_crosses
  rw [e]
  rfl
