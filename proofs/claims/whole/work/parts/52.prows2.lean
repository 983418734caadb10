/-! ===== the model's rows ===== -/
theorem pE_spans {lo sh' pu' cr xs ys : Int → Int} {n cc le sh pu f k y : Int} {l : List Int} {L : List (Int × Int)} (hf : 0 ≤ f ∧ f < 8) (hlo : lo f = le) (hsh' : sh' f = sh) (hpu' : pu' f = pu) (hr : qRow cr cc l) (hok : qOk l) (hle : 1 ≤ le ∧ le ≤ 12) (hsh : 0 ≤ sh ∧ sh ≤ 11) (hpu : 0 ≤ pu ∧ pu ≤ 3) (hk : 0 ≤ k ∧ k ≤ 100) (hp : qPt xs ys n L) (hn : L.length + (qRowP l le sh pu y k).length ≤ 4096) :
    ∃ xs' ys' n', f_X7_spans lo sh' pu' xs ys n cr cc y f k = some (xs', ys', n') ∧ qPt xs' ys' n' (L ++ qRowP l le sh pu y k) := by
  have h8 := hok.2.2.1
  have hev := hok.2.2.2
  have hcc := hr.1
  have htm : Int.tmod k 2 = k % 2 := Int.tmod_eq_emod_of_nonneg hk.1
  have H : ∃ q, zlp (fun z => f_X7_spans_L2 lo sh' pu' cr cc y f k z.1 z.2.1 z.2.2.1 z.2.2.2) zFU (0, xs, ys, n) = some q ∧ qPt q.2.1 q.2.2.1 q.2.2.2 (L ++ qRowP l le sh pu y k) := by
    refine zlp_for (fun s : Int × (Int → Int) × (Int → Int) × Int => s.1 / 2) (lo := 0) (hi := (l.length : Int) / 2) (fun j s => s.1 = 2 * j ∧ qPt s.2.1 s.2.2.1 s.2.2.2 (L ++ qFM (qRowS l le sh pu y k) 0 j)) _ (by omega) (by omega) ?_ ?_ (0, xs, ys, n) rfl ?_
    · intro s h0 h1 hR
      obtain ⟨x3, xs, ys, n⟩ := s
      have h0 : 0 ≤ x3 / 2 := h0
      have h1 : x3 / 2 < (l.length : Int) / 2 := h1
      obtain ⟨hx, hR⟩ := hR
      have hx : x3 = 2 * (x3 / 2) := hx
      have hR : qPt xs ys n (L ++ qFM (qRowS l le sh pu y k) 0 (x3 / 2)) := hR
      show ∃ s', f_X7_spans_L2 lo sh' pu' cr cc y f k x3 xs ys n = some (.inl s') ∧ _ ∧ _
      generalize hj : x3 / 2 = j at *
      subst hx
      have hs := qRS_in (k := k) h0 h1
      have e1 := qGet_row hr (i := 2 * qRS l k j) (by omega) (by omega)
      have e2 := qGet_row hr (i := 2 * qRS l k j + 1) (by omega) (by omega)
      have hb := qGet_le hok (i := 2 * qRS l k j) (j := 2 * qRS l k j + 1) (by omega) (by omega) hs.2
      have hlt := qFM_lt (g := qRowS l le sh pu y k) h0 h1
      have hn : L.length + (qFM (qRowS l le sh pu y k) 0 ((l.length : Int) / 2)).length ≤ 4096 := hn
      have hqs : qRS l k j = if k % 2 = 0 then j else (l.length : Int) / 2 - 1 - j := rfl
      obtain ⟨i, xs', ys', n', e, hq⟩ := pE_spanM (lo := lo) (sh' := sh') (pu' := pu') (cr := cr) (cc := cc) (f := f) (x3 := 2 * j) (k := k) (y := y) (l := qGet l (2 * qRS l k j) - pu) (r := qGet l (2 * qRS l k j + 1) + pu) hf hlo hsh' (by omega) hle hsh hk hR (by
        rw [List.length_append]
        have : (qRowS l le sh pu y k j).length = (qSpan le (k * sh) (qGet l (2 * qRS l k j) - pu) (qGet l (2 * qRS l k j + 1) + pu) y (k % 2)).length := rfl
        omega)
      have h30 : f_X7_spans_L2_30 lo sh' pu' xs ys n cr cc y f k (2 * j) (2 * qRS l k j) = some (.inl (2 * j + 2, xs', ys', n')) := by
        unfold f_X7_spans_L2_30
        rw [e1, e2, hpu']
        simp (disch := omega) only [zck_t, zlt, e, zb4_e]
      refine ⟨(2 * j + 2, xs', ys', n'), ?_, ?_, ?_, ?_⟩
      · unfold f_X7_spans_L2
        rw [htm]
        by_cases q : k % 2 = 0
        · rw [if_pos q] at hqs
          rw [hqs] at h30
          simp (disch := omega) only [zck_t, if_neg, if_pos]
          exact h30
        · rw [if_neg q] at hqs
          rw [hqs] at h30
          rw [show 2 * ((l.length : Int) / 2 - 1 - j) = cc - 2 - 2 * j by omega] at h30
          simp (disch := omega) only [zck_t, if_neg]
          exact h30
      · show (2 * j + 2) / 2 = j + 1
        omega
      · show 2 * j + 2 = 2 * (j + 1)
        omega
      · show qPt xs' ys' n' (L ++ qFM (qRowS l le sh pu y k) 0 (j + 1))
        rw [qFM_succ h0, ← List.append_assoc]
        exact hq
    · intro s h0 hR
      obtain ⟨x3, xs, ys, n⟩ := s
      have h0 : x3 / 2 = (l.length : Int) / 2 := h0
      obtain ⟨hx, hR⟩ := hR
      have hx : x3 = 2 * ((l.length : Int) / 2) := hx
      refine ⟨(x3, xs, ys, n), ?_, hR⟩
      show f_X7_spans_L2 lo sh' pu' cr cc y f k x3 xs ys n = _
      unfold f_X7_spans_L2
      simp (disch := omega) only [zck_t, if_pos]
    · refine ⟨rfl, ?_⟩
      show qPt xs ys n (L ++ qFM _ 0 0)
      rw [qFM_nil (Int.le_refl _), List.append_nil]
      exact hp
  obtain ⟨⟨i, xs', ys', n'⟩, e, hq⟩ := H
  refine ⟨xs', ys', n', ?_, hq⟩
  unfold f_X7_spans
  rw [e]
  rfl
theorem pE_ends {cx cy co cX cY de' lo sh' pu' xs ys cr : Int → Int} {n cc rY f c : Int} (hf : 0 ≤ f ∧ f < 8) (hc : 0 ≤ c ∧ c ≤ 8) (hb : qIn cx cy c) (hm : qCor f c cx cy co cX cY) :
    ∃ k, zlp (fun z => f_X7_rows_L8 co cX cY de' lo sh' pu' xs ys n cr cc rY f z.1 z.2.1 z.2.2) zFU (32, 0, 0) = some (qLo cy c, qHi cy c, k) := by
  obtain ⟨hco, hcc⟩ := hm
  have H : ∃ q, zlp (fun z => f_X7_rows_L8 co cX cY de' lo sh' pu' xs ys n cr cc rY f z.1 z.2.1 z.2.2) zFU (32, 0, 0) = some q ∧ (q.1 = qLo cy c ∧ q.2.1 = qHi cy c) := by
    refine zlp_for (fun s : Int × Int × Int => s.2.2) (lo := 0) (hi := c) (fun j s => s.1 = qLo cy j ∧ s.2.1 = qHi cy j) _ hc.1 (by omega) ?_ ?_ (32, 0, 0) rfl ?_
    · intro s h0 h1 hR
      obtain ⟨m, t, j⟩ := s
      have h0 : 0 ≤ j := h0
      have h1 : j < c := h1
      obtain ⟨hR1, hR2⟩ := hR
      have hR1 : m = qLo cy j := hR1
      have hR2 : t = qHi cy j := hR2
      have g := hb j h0 h1
      have g2 := qLoHi hb j.toNat (by omega)
      rw [show ((j.toNat : Nat) : Int) = j by omega] at g2
      have hm := hcc j h0 h1
      refine ⟨(min m (cy j), max t (cy j), j + 1), ?_, rfl, ?_, ?_⟩
      · show f_X7_rows_L8 co cX cY de' lo sh' pu' xs ys n cr cc rY f m t j = _
        unfold f_X7_rows_L8 f_X7_rows_L8_45
        have hgr : f_X7_greater t (cy j) = some (max t (cy j)) := pE_greater (by omega) (by omega)
        rw [hco, hm.2]
        by_cases q : m ≤ cy j
        · rw [show min m (cy j) = m by omega]
          simp (disch := omega) only [zck_t, if_neg, if_pos, zlt, zb1_e, hgr]
        · rw [show min m (cy j) = cy j by omega]
          simp (disch := omega) only [zck_t, if_neg, zlt, zb1_e, hgr]
      · show min m (cy j) = qLo cy (j + 1)
        rw [qLo_s h0, hR1]
      · show max t (cy j) = qHi cy (j + 1)
        rw [qHi_s h0, hR2]
    · intro s h0 hR
      obtain ⟨m, t, j⟩ := s
      have h0 : j = c := h0
      refine ⟨(m, t, j), ?_, hR⟩
      show f_X7_rows_L8 co cX cY de' lo sh' pu' xs ys n cr cc rY f m t j = _
      unfold f_X7_rows_L8
      rw [hco]
      simp (disch := omega) only [zck_t, if_pos]
    · constructor
      · show (32 : Int) = qLo cy 0
        unfold qLo
        rw [qR_nil (by omega)]
        rfl
      · show (0 : Int) = qHi cy 0
        unfold qHi
        rw [qR_nil (by omega)]
        rfl
  obtain ⟨⟨m, t, j⟩, e, h1, h2⟩ := H
  have h1 : m = qLo cy c := h1
  have h2 : t = qHi cy c := h2
  rw [h1, h2] at e
  exact ⟨j, e⟩
theorem pE_rows {cx cy co cX cY de' lo sh' pu' xs ys cr : Int → Int} {n cc rY f c de le sh pu : Int} {L : List (Int × Int)} (hf : 0 ≤ f ∧ f < 8) (hc : 3 ≤ c ∧ c ≤ 8) (hb : qIn cx cy c) (hm : qCor f c cx cy co cX cY) (hde' : de' f = de) (hlo : lo f = le) (hsh' : sh' f = sh) (hpu' : pu' f = pu) (hde : 1 ≤ de ∧ de ≤ 8) (hle : 1 ≤ le ∧ le ≤ 12) (hsh : 0 ≤ sh ∧ sh ≤ 11) (hpu : 0 ≤ pu ∧ pu ≤ 3) (hp : qPt xs ys n L) (hn : L.length + (qRows cx cy c de le sh pu).length ≤ 4096) :
    ∃ xs' ys' n' cr' cc' rY', f_X7_rows co cX cY de' lo sh' pu' xs ys n cr cc rY f = some (xs', ys', n', cr', cc', rY') ∧ qPt xs' ys' n' (L ++ qRows cx cy c de le sh pu) := by
  obtain ⟨h1, h2, h3⟩ := qLoHi' (by omega) hb
  have g := h3 0 (by omega) (by omega)
  have hnr := qNR_b hc.1 hb hde.1
  have H : ∃ q, zlp (fun z => f_X7_rows_L65 co cX cY de' lo sh' pu' f (qHi cy c) z.1 z.2.1 z.2.2.1 z.2.2.2.1 z.2.2.2.2.1 z.2.2.2.2.2.1 z.2.2.2.2.2.2.1 z.2.2.2.2.2.2.2) zFU (0, qLo cy c, xs, ys, n, cr, cc, rY) = some q ∧ qPt q.2.2.1 q.2.2.2.1 q.2.2.2.2.1 (L ++ qRows cx cy c de le sh pu) := by
    refine zlp_for (fun s : Int × Int × (Int → Int) × (Int → Int) × Int × (Int → Int) × Int × Int => s.1) (lo := 0) (hi := qNR cy c de) (fun j s => s.2.1 = qLo cy c + j * de ∧ qPt s.2.2.1 s.2.2.2.1 s.2.2.2.2.1 (L ++ qFM (qRowK cx cy c de le sh pu) 0 j)) _ hnr.1 (by omega) ?_ ?_ (0, qLo cy c, xs, ys, n, cr, cc, rY) rfl ?_
    · intro s h0 h1' hR
      obtain ⟨k, y, xs, ys, n, cr, cc, rY⟩ := s
      have h0 : 0 ≤ k := h0
      have h1' : k < qNR cy c de := h1'
      obtain ⟨hY, hR⟩ := hR
      have hY : y = qLo cy c + k * de := hY
      have hR : qPt xs ys n (L ++ qFM (qRowK cx cy c de le sh pu) 0 k) := hR
      show ∃ s', f_X7_rows_L65 co cX cY de' lo sh' pu' f (qHi cy c) k y xs ys n cr cc rY = some (.inl s') ∧ _ ∧ _
      subst hY
      replace hR : qPt xs ys n (L ++ qFM (qRowK cx cy c de le sh pu) 0 k) := hR
      have hy := (qNR_lt (k := k) hde.1).mp h1'
      have hyk := qMul_b (d := k) (j := de) (D := 31) (J := 8) (by omega) (by omega) (by omega) hde.2
      have hlt := qFM_lt (g := qRowK cx cy c de le sh pu) (lo := 0) (j := k) (hi := qNR cy c de) h0 h1'
      have hn : L.length + (qFM (qRowK cx cy c de le sh pu) 0 (qNR cy c de)).length ≤ 4096 := hn
      obtain ⟨cr2, cc2, e1, hr⟩ := pE_crosses (cr := cr) (cc := cc) (y := qLo cy c + k * de) hf (by omega) hb hm (by omega)
      have hok := qCr_ok (y := qLo cy c + k * de) (by omega) hb
      obtain ⟨xs', ys', n', e2, hq⟩ := pE_spans (k := k) (y := qLo cy c + k * de) hf hlo hsh' hpu' hr hok hle hsh hpu (by omega) hR (by
        rw [List.length_append]
        have : (qRowK cx cy c de le sh pu k).length = (qRowP (qCr cx cy c (qLo cy c + k * de)) le sh pu (qLo cy c + k * de) k).length := rfl
        omega)
      refine ⟨(k + 1, qLo cy c + k * de + de, xs', ys', n', cr2, cc2, qLo cy c + k * de), ?_, rfl, ?_, ?_⟩
      · unfold f_X7_rows_L65
        simp (disch := omega) only [zck_t, if_neg, zlt, e1, zb2_e, e2, zb3_e, hde']
      · show qLo cy c + k * de + de = qLo cy c + (k + 1) * de
        rw [Int.add_mul]
        omega
      · show qPt xs' ys' n' (L ++ qFM (qRowK cx cy c de le sh pu) 0 (k + 1))
        rw [qFM_succ h0, ← List.append_assoc]
        exact hq
    · intro s h0 hR
      obtain ⟨k, y, xs, ys, n, cr, cc, rY⟩ := s
      have h0 : k = qNR cy c de := h0
      obtain ⟨hY, hR⟩ := hR
      have hY : y = qLo cy c + qNR cy c de * de := hY
      refine ⟨(k, y, xs, ys, n, cr, cc, rY), ?_, hR⟩
      show f_X7_rows_L65 co cX cY de' lo sh' pu' f (qHi cy c) k y xs ys n cr cc rY = _
      have hy := (qNR_lt (cy := cy) (c := c) (k := qNR cy c de) hde.1)
      have hyk := qMul_b (d := qNR cy c de) (j := de) (D := 31) (J := 8) (by omega) (by omega) (by omega) hde.2
      unfold f_X7_rows_L65
      simp (disch := omega) only [zck_t, if_pos]
    · refine ⟨?_, ?_⟩
      · show qLo cy c = qLo cy c + 0 * de
        omega
      · show qPt xs ys n (L ++ qFM _ 0 0)
        rw [qFM_nil (Int.le_refl _), List.append_nil]
        exact hp
  obtain ⟨⟨k, y, xs', ys', n', cr', cc', rY'⟩, e, hq⟩ := H
  obtain ⟨j, ee⟩ := pE_ends (de' := de') (lo := lo) (sh' := sh') (pu' := pu') (xs := xs) (ys := ys) (n := n) (cr := cr) (cc := cc) (rY := rY) hf (by omega) hb hm
  refine ⟨xs', ys', n', cr', cc', rY', ?_, hq⟩
  unfold f_X7_rows
  rw [ee]
  simp only [zb3_e]
  rw [e]
  rfl
