/-! ===== the model's underlays, columns and points of a field ===== -/
theorem pE_munder {co cX cY lo cx cy xs ys : Int → Int} {f c le n : Int} {L : List (Int × Int)} (hf : 0 ≤ f ∧ f < 8) (hc : 3 ≤ c ∧ c ≤ 8) (hb : qIn cx cy c) (hm : qCor f c cx cy co cX cY) (hlo : lo f = le) (hle : 1 ≤ le ∧ le ≤ 12) (hp : qPt xs ys n L) (hn : L.length + (qUnd cx cy c le).length ≤ 4096) :
    ∃ xs' ys' n', f_X7_underlays co cX cY lo xs ys n f = some (xs', ys', n') ∧ qPt xs' ys' n' (L ++ qUnd cx cy c le) := by
  obtain ⟨hco, hcc⟩ := hm
  have hnl := hp.1
  unfold qUnd at hn ⊢
  rw [List.length_append, List.length_singleton] at hn
  have m0 := hcc 0 (by omega) (by omega)
  rw [Int.add_zero] at m0
  have H := zlp_pts (body := fun z => f_X7_underlays_L23 co cX cY lo f (8 * f) z.1 z.2.1 z.2.2.1 z.2.2.2) (g := qUndI cx cy c le) (lo := 0) (hi := c) (M := 4096) (by omega) (by omega) ?_ ?_ (qPt_put hp (cx 0) (cy 0)) (by rw [List.length_append, List.length_singleton]; omega)
  · obtain ⟨xs', ys', n', e, hq⟩ := H
    refine ⟨xs', ys', n', ?_, by rw [← List.append_assoc]; exact hq⟩
    unfold f_X7_underlays
    simp (disch := omega) only [zck_t, zlt]
    rw [m0.1, m0.2, pE_point (by omega)]
    simp only [zb3_e]
    rw [e]
    rfl
  · intro i xs ys n L h0 h1 hp hn
    have hx := qNx_in h0 h1
    have b1 := hb i h0 h1
    have b2 := hb (qNx c i) hx.1 hx.2
    have m1 := hcc i h0 h1
    have m2 := hcc (qNx c i) hx.1 hx.2
    have hne := qNE_b hle b1.1 b1.2 b2.1 b2.2
    have H2 := zlp_pts (body := fun z => f_X7_underlays_L104 co cX cY lo f (8 * f) i (8 * f + i) (cx (qNx c i) - cx i) (cy (qNx c i) - cy i) (qNE le (cx i) (cy i) (cx (qNx c i)) (cy (qNx c i))) z.1 z.2.1 z.2.2.1 z.2.2.2) (g := qEdgeP le (cx i) (cy i) (cx (qNx c i)) (cy (qNx c i))) (lo := 1) (hi := qNE le (cx i) (cy i) (cx (qNx c i)) (cy (qNx c i)) + 1) (M := 4096) (by omega) (by omega) ?_ ?_ hp hn
    · obtain ⟨xs', ys', n', e, hq⟩ := H2
      refine ⟨xs', ys', n', ?_, hq⟩
      show f_X7_underlays_L23 co cX cY lo f (8 * f) i xs ys n = _
      have hst : f_X7_steps (cx (qNx c i) - cx i) (cy (qNx c i) - cy i) le = some (qNE le (cx i) (cy i) (cx (qNx c i)) (cy (qNx c i))) := pE_steps (by omega) (by omega) (by omega)
      unfold f_X7_underlays_L23
      rw [hco, qNx_tmod h0 h1, hlo]
      simp (disch := omega) only [zck_t, if_neg, zlt, m1.1, m1.2, m2.1, m2.2, hst, zb1_e, e, zb4_e]
    · intro j xs ys n L j0 j1 hp hn
      have hnl := hp.1
      have : (qEdgeP le (cx i) (cy i) (cx (qNx c i)) (cy (qNx c i)) j).length = 1 := rfl
      have e1 := pE_downP (d := cx (qNx c i) - cx i) (j := j) (n := qNE le (cx i) (cy i) (cx (qNx c i)) (cy (qNx c i))) (by omega) (by omega) (by omega)
      have e2 := pE_downP (d := cy (qNx c i) - cy i) (j := j) (n := qNE le (cx i) (cy i) (cx (qNx c i)) (cy (qNx c i))) (by omega) (by omega) (by omega)
      refine ⟨_, _, _, ?_, qPt_put hp (qPl (cx i) (cx (qNx c i)) j (qNE le (cx i) (cy i) (cx (qNx c i)) (cy (qNx c i)))) (qPl (cy i) (cy (qNx c i)) j (qNE le (cx i) (cy i) (cx (qNx c i)) (cy (qNx c i))))⟩
      show f_X7_underlays_L104 co cX cY lo f (8 * f) i (8 * f + i) (cx (qNx c i) - cx i) (cy (qNx c i) - cy i) (qNE le (cx i) (cy i) (cx (qNx c i)) (cy (qNx c i))) j xs ys n = _
      unfold f_X7_underlays_L104
      rw [m1.1, m1.2]
      simp (disch := omega) only [zck_t, if_neg, e1, e2, zb1_e]
      rw [pE_point (by omega)]
      rfl
    · intro xs ys n
      show f_X7_underlays_L104 co cX cY lo f (8 * f) i (8 * f + i) (cx (qNx c i) - cx i) (cy (qNx c i) - cy i) (qNE le (cx i) (cy i) (cx (qNx c i)) (cy (qNx c i))) (qNE le (cx i) (cy i) (cx (qNx c i)) (cy (qNx c i)) + 1) xs ys n = _
      unfold f_X7_underlays_L104
      simp (disch := omega) only [zck_t, if_pos]
  · intro xs ys n
    show f_X7_underlays_L23 co cX cY lo f (8 * f) c xs ys n = _
    unfold f_X7_underlays_L23
    rw [hco]
    simp (disch := omega) only [zck_t, if_pos]
theorem pE_mcol {co cX cY de' cx cy xs ys : Int → Int} {f de n : Int} {L : List (Int × Int)} (hf : 0 ≤ f ∧ f < 8) (hb : qIn cx cy 4) (hm : qCor f 4 cx cy co cX cY) (hde' : de' f = de) (hde : 1 ≤ de ∧ de ≤ 8) (hp : qPt xs ys n L) (hn : L.length + (qCol cx cy de).length ≤ 4096) :
    ∃ xs' ys' n', f_X7_column cX cY de' xs ys n f = some (xs', ys', n') ∧ qPt xs' ys' n' (L ++ qCol cx cy de) := by
  obtain ⟨hco, hcc⟩ := hm
  have b0 := hb 0 (by omega) (by omega)
  have b1 := hb 1 (by omega) (by omega)
  have b2 := hb 2 (by omega) (by omega)
  have b3 := hb 3 (by omega) (by omega)
  have m0 := hcc 0 (by omega) (by omega)
  have m1 := hcc 1 (by omega) (by omega)
  have m2 := hcc 2 (by omega) (by omega)
  have m3 := hcc 3 (by omega) (by omega)
  rw [Int.add_zero] at m0
  have hnc := qNC_b hb hde
  have g1 := qG_e (cx 1 - cx 0) (cy 1 - cy 0)
  have g2 := qG_e (cx 2 - cx 3) (cy 2 - cy 3)
  have H := zlp_pts (body := fun z => f_X7_column_L118 cX cY de' (8 * f) (cx 1 - cx 0) (cy 1 - cy 0) (cx 2 - cx 3) (cy 2 - cy 3) (qNC cx cy de) z.1 z.2.1 z.2.2.1 z.2.2.2) (g := qColJ cx cy de) (lo := 0) (hi := qNC cx cy de + 1) (M := 4096) (by omega) (by omega) ?_ ?_ hp hn
  · obtain ⟨xs', ys', n', e, hq⟩ := H
    refine ⟨xs', ys', n', ?_, hq⟩
    have s1 : f_X7_size (cx 1 - cx 0) = some ((cx 1 - cx 0).natAbs : Int) := pE_size (by omega)
    have s2 : f_X7_size (cy 1 - cy 0) = some ((cy 1 - cy 0).natAbs : Int) := pE_size (by omega)
    have s3 : f_X7_size (cx 2 - cx 3) = some ((cx 2 - cx 3).natAbs : Int) := pE_size (by omega)
    have s4 : f_X7_size (cy 2 - cy 3) = some ((cy 2 - cy 3).natAbs : Int) := pE_size (by omega)
    have t1 : f_X7_greater ((cx 1 - cx 0).natAbs : Int) ((cy 1 - cy 0).natAbs : Int) = some (qG (cx 1 - cx 0) (cy 1 - cy 0)) := pE_greater (by omega) (by omega)
    have t2 : f_X7_greater ((cx 2 - cx 3).natAbs : Int) ((cy 2 - cy 3).natAbs : Int) = some (qG (cx 2 - cx 3) (cy 2 - cy 3)) := pE_greater (by omega) (by omega)
    have t3 : f_X7_greater (qG (cx 1 - cx 0) (cy 1 - cy 0)) (qG (cx 2 - cx 3) (cy 2 - cy 3)) = some (max (qG (cx 1 - cx 0) (cy 1 - cy 0)) (qG (cx 2 - cx 3) (cy 2 - cy 3))) := pE_greater (by omega) (by omega)
    unfold f_X7_column
    simp (disch := omega) only [zck_t, zlt, m0.1, m0.2, m1.1, m1.2, m2.1, m2.2, m3.1, m3.2, s1, s2, s3, s4, zb1_e, t1, t2, t3, hde']
    rw [Int.tdiv_eq_ediv_of_nonneg (by omega), show max (qG (cx 1 - cx 0) (cy 1 - cy 0)) (qG (cx 2 - cx 3) (cy 2 - cy 3)) / de + 1 = qNC cx cy de from rfl, e]
    rfl
  · intro j xs ys n L h0 h1' hp hn
    have hnl := hp.1
    have : (qColJ cx cy de j).length = 2 := rfl
    have e1 := pE_downP (d := cx 1 - cx 0) (j := j) (n := qNC cx cy de) (by omega) (by omega) (by omega)
    have e2 := pE_downP (d := cy 1 - cy 0) (j := j) (n := qNC cx cy de) (by omega) (by omega) (by omega)
    have e3 := pE_downP (d := cx 2 - cx 3) (j := j) (n := qNC cx cy de) (by omega) (by omega) (by omega)
    have e4 := pE_downP (d := cy 2 - cy 3) (j := j) (n := qNC cx cy de) (by omega) (by omega) (by omega)
    have hp2 := qPt_put (qPt_put hp (qPl (cx 0) (cx 1) j (qNC cx cy de)) (qPl (cy 0) (cy 1) j (qNC cx cy de))) (qPl (cx 3) (cx 2) j (qNC cx cy de)) (qPl (cy 3) (cy 2) j (qNC cx cy de))
    rw [List.append_assoc] at hp2
    refine ⟨_, _, _, ?_, hp2⟩
    show f_X7_column_L118 cX cY de' (8 * f) (cx 1 - cx 0) (cy 1 - cy 0) (cx 2 - cx 3) (cy 2 - cy 3) (qNC cx cy de) j xs ys n = _
    unfold f_X7_column_L118
    simp (disch := omega) only [zck_t, if_neg, e1, e2, e3, e4, zb1_e, m0.1, m0.2, m3.1, m3.2]
    rw [pE_point (by omega)]
    simp only [zb3_e]
    rw [pE_point (by omega)]
    rfl
  · intro xs ys n
    show f_X7_column_L118 cX cY de' (8 * f) (cx 1 - cx 0) (cy 1 - cy 0) (cx 2 - cx 3) (cy 2 - cy 3) (qNC cx cy de) (qNC cx cy de + 1) xs ys n = _
    unfold f_X7_column_L118
    simp (disch := omega) only [zck_t, if_pos]
/-- the model's numbers of a field -/
abbrev qMo (f col c : Int) (cx cy : Int → Int) (de le sh pu un : Int) (co cX cY ic de' lo sh' pu' hu : Int → Int) : Prop := qCor f c cx cy co cX cY ∧ ic f = col ∧ de' f = de ∧ lo f = le ∧ sh' f = sh ∧ pu' f = pu ∧ hu f = un
theorem pE_finds {f col c de le sh pu un n cc rY : Int} {cx cy co cX cY ic de' lo sh' pu' hu xs ys cr : Int → Int} (hf : 0 ≤ f ∧ f < 8) (hF : qFd col c cx cy de le sh pu un) (hM : qMo f col c cx cy de le sh pu un co cX cY ic de' lo sh' pu' hu) (hn : (qPts col c cx cy de le sh pu un).length ≤ 4096) :
    ∃ xs' ys' n' cr' cc' rY', f_X7_finds ic co cX cY de' lo sh' pu' hu xs ys n cr cc rY f = some (xs', ys', n', cr', cc', rY') ∧ qPt xs' ys' n' (qPts col c cx cy de le sh pu un) := by
  obtain ⟨hcol, hc, hc4, hb, hde, hle, hsh, hpu, hun⟩ := hF
  obtain ⟨hm, m1, m2, m3, m4, m5, m6⟩ := hM
  have hp0 := qPt_nil xs ys
  have hco := hm.1
  unfold f_X7_finds
  rw [m1, hco, m6]
  rcases hcol with q | q
  · subst q
    by_cases c3 : c < 3
    · rw [qPts_few c3]
      refine ⟨xs, ys, 0, cr, cc, rY, ?_, hp0⟩
      simp (disch := omega) only [zck_t, if_pos, if_true]
    · rcases hun with q | q
      · subst q
        rw [qPts_rows c3] at hn ⊢
        obtain ⟨xs', ys', n', cr', cc', rY', e, hq⟩ := pE_rows (cr := cr) (cc := cc) (rY := rY) hf ⟨by omega, hc.2⟩ hb hm m2 m3 m4 m5 hde hle hsh hpu hp0 (by rw [List.length_nil]; omega)
        refine ⟨xs', ys', n', cr', cc', rY', ?_, by rw [List.nil_append] at hq; exact hq⟩
        unfold f_X7_finds_56
        simp (disch := omega) only [zck_t, if_neg, if_true, e, zb6_e]
      · subst q
        rw [qPts_und c3] at hn ⊢
        rw [List.length_append] at hn
        obtain ⟨xs1, ys1, n1, e1, hq1⟩ := pE_munder hf ⟨by omega, hc.2⟩ hb hm m3 hle hp0 (by rw [List.length_nil]; omega)
        obtain ⟨xs', ys', n', cr', cc', rY', e, hq⟩ := pE_rows (cr := cr) (cc := cc) (rY := rY) hf ⟨by omega, hc.2⟩ hb hm m2 m3 m4 m5 hde hle hsh hpu hq1 (by rw [List.length_append, List.length_nil]; omega)
        refine ⟨xs', ys', n', cr', cc', rY', ?_, by rw [List.nil_append] at hq; exact hq⟩
        unfold f_X7_finds_56
        simp (disch := omega) only [zck_t, if_neg, if_true, e1, zb3_e, e, zb6_e]
  · subst q
    by_cases q4 : c = 4
    · subst q4
      rw [qPts_col] at hn ⊢
      obtain ⟨xs', ys', n', e, hq⟩ := pE_mcol hf hb hm m2 hde hp0 (by rw [List.length_nil]; omega)
      refine ⟨xs', ys', n', cr, cc, rY, ?_, by rw [List.nil_append] at hq; exact hq⟩
      simp (disch := omega) only [zck_t, if_neg, if_true, e, zb3_e]
    · rw [qPts_noc q4]
      refine ⟨xs, ys, 0, cr, cc, rY, ?_, hp0⟩
      simp (disch := omega) only [zck_t, if_neg]
