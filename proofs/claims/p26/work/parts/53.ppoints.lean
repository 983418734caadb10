/-! ===== underlays, columns, the needle points of a field ===== -/
theorem pE_behind {c i : Int} (hc : 0 ≤ c ∧ c ≤ 8) (h0 : 0 ≤ i) (h1 : i < c) : f_X0_cornerBehind c i = some (qNx c i) := by
  unfold f_X0_cornerBehind qNx
  by_cases q : i + 1 < c
  · rw [if_pos q]
    simp (disch := omega) only [zck_t, if_neg]
  · rw [if_neg q]
    simp (disch := omega) only [zck_t, if_pos]
theorem qG_e (a b : Int) : qG a b = max (a.natAbs : Int) (b.natAbs : Int) := rfl
/-- steps of an edge -/
def qNE (le x1 y1 x2 y2 : Int) : Int := (qG (x2 - x1) (y2 - y1) + le - 1) / le
def qEdgeP (le x1 y1 x2 y2 j : Int) : List (Int × Int) := [(qPl x1 x2 j (qNE le x1 y1 x2 y2), qPl y1 y2 j (qNE le x1 y1 x2 y2))]
def qEdge (le x1 y1 x2 y2 : Int) : List (Int × Int) := qFM (qEdgeP le x1 y1 x2 y2) 1 (qNE le x1 y1 x2 y2 + 1)
theorem qNE_b {le x1 y1 x2 y2 : Int} (hle : 1 ≤ le ∧ le ≤ 12) (h1 : 0 ≤ x1 ∧ x1 ≤ 31) (h2 : 0 ≤ y1 ∧ y1 ≤ 31) (h3 : 0 ≤ x2 ∧ x2 ≤ 31) (h4 : 0 ≤ y2 ∧ y2 ≤ 31) : 0 ≤ qNE le x1 y1 x2 y2 ∧ qNE le x1 y1 x2 y2 ≤ 31 := by
  have hg := qG_e (x2 - x1) (y2 - y1)
  constructor
  · exact Int.ediv_nonneg (by omega) (by omega)
  · show (qG (x2 - x1) (y2 - y1) + le - 1) / le ≤ 31
    rw [Int.ediv_le_iff_le_mul (by omega)]
    omega
theorem pE_drawEdge {le n x1 y1 x2 y2 : Int} {xs ys : Int → Int} {L : List (Int × Int)} (hle : 1 ≤ le ∧ le ≤ 12) (h1 : 0 ≤ x1 ∧ x1 ≤ 31) (h2 : 0 ≤ y1 ∧ y1 ≤ 31) (h3 : 0 ≤ x2 ∧ x2 ≤ 31) (h4 : 0 ≤ y2 ∧ y2 ≤ 31) (hp : qPt xs ys n L) (hn : L.length + (qEdge le x1 y1 x2 y2).length ≤ 2078) :
    ∃ xs' ys' n', f_X0_drawEdge le xs ys n x1 y1 x2 y2 = some (xs', ys', n') ∧ qPt xs' ys' n' (L ++ qEdge le x1 y1 x2 y2) := by
  have hb := qNE_b hle h1 h2 h3 h4
  have hg := qG_e (x2 - x1) (y2 - y1)
  have H := zlp_pts (body := fun z => f_X0_drawEdge_L22 le x1 y1 x2 y2 (qNE le x1 y1 x2 y2) z.1 z.2.1 z.2.2.1 z.2.2.2) (g := qEdgeP le x1 y1 x2 y2) (lo := 1) (hi := qNE le x1 y1 x2 y2 + 1) (M := 2078) (by omega) (by omega) ?_ ?_ hp hn
  · obtain ⟨xs', ys', n', e, hq⟩ := H
    refine ⟨xs', ys', n', ?_, hq⟩
    unfold f_X0_drawEdge
    rw [pE_great (by omega) (by omega)]
    simp only [zb1_e]
    rw [pE_up (by omega) (by omega)]
    simp only [zb1_e]
    rw [show (qG (x2 - x1) (y2 - y1) + le - 1) / le = qNE le x1 y1 x2 y2 from rfl, e]
    rfl
  · intro j xs ys n L h0 h1' hp hn
    have hnl := hp.1
    have : (qEdgeP le x1 y1 x2 y2 j).length = 1 := rfl
    have e1 := pE_place (a := x1) (b := x2) (j := j) (n := qNE le x1 y1 x2 y2) (by omega) (by omega) (by omega)
    have e2 := pE_place (a := y1) (b := y2) (j := j) (n := qNE le x1 y1 x2 y2) (by omega) (by omega) (by omega)
    refine ⟨_, _, _, ?_, qPt_put hp (qPl x1 x2 j (qNE le x1 y1 x2 y2)) (qPl y1 y2 j (qNE le x1 y1 x2 y2))⟩
    show f_X0_drawEdge_L22 le x1 y1 x2 y2 (qNE le x1 y1 x2 y2) j xs ys n = _
    unfold f_X0_drawEdge_L22
    simp (disch := omega) only [zck_t, if_neg, e1, e2, zb1_e]
    rw [pE_put (by omega)]
    rfl
  · intro xs ys n
    show f_X0_drawEdge_L22 le x1 y1 x2 y2 (qNE le x1 y1 x2 y2) (qNE le x1 y1 x2 y2 + 1) xs ys n = _
    unfold f_X0_drawEdge_L22
    simp (disch := omega) only [zck_t, if_pos]
def qUndI (cx cy : Int → Int) (c le i : Int) : List (Int × Int) := qEdge le (cx i) (cy i) (cx (qNx c i)) (cy (qNx c i))
def qUnd (cx cy : Int → Int) (c le : Int) : List (Int × Int) := [(cx 0, cy 0)] ++ qFM (qUndI cx cy c le) 0 c
theorem pE_drawUnd {cx cy xs ys : Int → Int} {c le n : Int} {L : List (Int × Int)} (hc : 3 ≤ c ∧ c ≤ 8) (hb : qIn cx cy c) (hle : 1 ≤ le ∧ le ≤ 12) (hp : qPt xs ys n L) (hn : L.length + (qUnd cx cy c le).length ≤ 2078) :
    ∃ xs' ys' n', f_X0_drawUnderlay cx cy c le xs ys n = some (xs', ys', n') ∧ qPt xs' ys' n' (L ++ qUnd cx cy c le) := by
  have hnl := hp.1
  unfold qUnd at hn ⊢
  rw [List.length_append, List.length_singleton] at hn
  have H := zlp_pts (body := fun z => f_X0_drawUnderlay_L21 cx cy c le z.1 z.2.1 z.2.2.1 z.2.2.2) (g := qUndI cx cy c le) (lo := 0) (hi := c) (M := 2078) (by omega) (by omega) ?_ ?_ (qPt_put hp (cx 0) (cy 0)) (by rw [List.length_append, List.length_singleton]; omega)
  · obtain ⟨xs', ys', n', e, hq⟩ := H
    refine ⟨xs', ys', n', ?_, by rw [← List.append_assoc]; exact hq⟩
    unfold f_X0_drawUnderlay
    rw [pE_put (by omega)]
    simp only [zb3_e]
    rw [e]
    rfl
  · intro j xs ys n L h0 h1 hp hn
    have hx := qNx_in h0 h1
    have g1 := hb j h0 h1
    have g2 := hb (qNx c j) hx.1 hx.2
    obtain ⟨xs', ys', n', e, hq⟩ := pE_drawEdge hle g1.1 g1.2 g2.1 g2.2 hp hn
    refine ⟨xs', ys', n', ?_, hq⟩
    show f_X0_drawUnderlay_L21 cx cy c le j xs ys n = _
    unfold f_X0_drawUnderlay_L21
    rw [pE_behind (by omega) h0 h1]
    simp (disch := omega) only [zck_t, if_neg, zb1_e, e, zb3_e]
  · intro xs ys n
    show f_X0_drawUnderlay_L21 cx cy c le c xs ys n = _
    unfold f_X0_drawUnderlay_L21
    simp (disch := omega) only [zck_t, if_pos]
/-- a column -/
def qNC (cx cy : Int → Int) (de : Int) : Int := max (qG (cx 1 - cx 0) (cy 1 - cy 0)) (qG (cx 2 - cx 3) (cy 2 - cy 3)) / de + 1
def qColJ (cx cy : Int → Int) (de j : Int) : List (Int × Int) := [(qPl (cx 0) (cx 1) j (qNC cx cy de), qPl (cy 0) (cy 1) j (qNC cx cy de)), (qPl (cx 3) (cx 2) j (qNC cx cy de), qPl (cy 3) (cy 2) j (qNC cx cy de))]
def qCol (cx cy : Int → Int) (de : Int) : List (Int × Int) := qFM (qColJ cx cy de) 0 (qNC cx cy de + 1)
theorem qNC_b {cx cy : Int → Int} {de : Int} (hb : qIn cx cy 4) (hde : 1 ≤ de ∧ de ≤ 8) : 1 ≤ qNC cx cy de ∧ qNC cx cy de ≤ 32 := by
  have b0 := hb 0 (by omega) (by omega)
  have b1 := hb 1 (by omega) (by omega)
  have b2 := hb 2 (by omega) (by omega)
  have b3 := hb 3 (by omega) (by omega)
  have g1 := qG_e (cx 1 - cx 0) (cy 1 - cy 0)
  have g2 := qG_e (cx 2 - cx 3) (cy 2 - cy 3)
  unfold qNC
  have h1 : 0 ≤ max (qG (cx 1 - cx 0) (cy 1 - cy 0)) (qG (cx 2 - cx 3) (cy 2 - cy 3)) / de := Int.ediv_nonneg (by omega) (by omega)
  have h2 := Int.ediv_le_self (a := max (qG (cx 1 - cx 0) (cy 1 - cy 0)) (qG (cx 2 - cx 3) (cy 2 - cy 3))) de (by omega)
  omega
theorem pE_drawCol {cx cy xs ys : Int → Int} {de n : Int} {L : List (Int × Int)} (hb : qIn cx cy 4) (hde : 1 ≤ de ∧ de ≤ 8) (hp : qPt xs ys n L) (hn : L.length + (qCol cx cy de).length ≤ 2078) :
    ∃ xs' ys' n', f_X0_drawColumn cx cy 4 de xs ys n = some (xs', ys', n') ∧ qPt xs' ys' n' (L ++ qCol cx cy de) := by
  have b0 := hb 0 (by omega) (by omega)
  have b1 := hb 1 (by omega) (by omega)
  have b2 := hb 2 (by omega) (by omega)
  have b3 := hb 3 (by omega) (by omega)
  have hnc := qNC_b hb hde
  have g1 := qG_e (cx 1 - cx 0) (cy 1 - cy 0)
  have g2 := qG_e (cx 2 - cx 3) (cy 2 - cy 3)
  have H := zlp_pts (body := fun z => f_X0_drawColumn_L105 cx cy 4 de (qNC cx cy de) z.1 z.2.1 z.2.2.1 z.2.2.2) (g := qColJ cx cy de) (lo := 0) (hi := qNC cx cy de + 1) (M := 2078) (by omega) (by omega) ?_ ?_ hp hn
  · obtain ⟨xs', ys', n', e, hq⟩ := H
    refine ⟨xs', ys', n', ?_, hq⟩
    unfold f_X0_drawColumn
    rw [pE_great (by omega) (by omega), pE_great (by omega) (by omega)]
    simp (disch := omega) only [zck_t, if_neg, if_pos, zb1_e, zlt]
    rw [Int.tdiv_eq_ediv_of_nonneg (by omega), show max (qG (cx 1 - cx 0) (cy 1 - cy 0)) (qG (cx 2 - cx 3) (cy 2 - cy 3)) / de + 1 = qNC cx cy de from rfl, e]
    rfl
  · intro j xs ys n L h0 h1' hp hn
    have hnl := hp.1
    have : (qColJ cx cy de j).length = 2 := rfl
    have e1 := pE_place (a := cx 0) (b := cx 1) (j := j) (n := qNC cx cy de) (by omega) (by omega) (by omega)
    have e2 := pE_place (a := cy 0) (b := cy 1) (j := j) (n := qNC cx cy de) (by omega) (by omega) (by omega)
    have e3 := pE_place (a := cx 3) (b := cx 2) (j := j) (n := qNC cx cy de) (by omega) (by omega) (by omega)
    have e4 := pE_place (a := cy 3) (b := cy 2) (j := j) (n := qNC cx cy de) (by omega) (by omega) (by omega)
    have hp2 := qPt_put (qPt_put hp (qPl (cx 0) (cx 1) j (qNC cx cy de)) (qPl (cy 0) (cy 1) j (qNC cx cy de))) (qPl (cx 3) (cx 2) j (qNC cx cy de)) (qPl (cy 3) (cy 2) j (qNC cx cy de))
    rw [List.append_assoc] at hp2
    refine ⟨_, _, _, ?_, hp2⟩
    show f_X0_drawColumn_L105 cx cy 4 de (qNC cx cy de) j xs ys n = _
    unfold f_X0_drawColumn_L105
    simp (disch := omega) only [zck_t, if_neg, e1, e2, e3, e4, zb1_e]
    rw [pE_put (by omega)]
    simp only [zb3_e]
    rw [pE_put (by omega)]
    rfl
  · intro xs ys n
    show f_X0_drawColumn_L105 cx cy 4 de (qNC cx cy de) (qNC cx cy de + 1) xs ys n = _
    unfold f_X0_drawColumn_L105
    simp (disch := omega) only [zck_t, if_pos]
/-- the needle points of a field -/
def qPts (col c : Int) (cx cy : Int → Int) (de le sh pu un : Int) : List (Int × Int) :=
  if col = 0 then (if c < 3 then [] else (if un = 0 then [] else qUnd cx cy c le) ++ qRows cx cy c de le sh pu) else (if c = 4 then qCol cx cy de else [])
/-- what is known of a field -/
abbrev qFd (col c : Int) (cx cy : Int → Int) (de le sh pu un : Int) : Prop := (col = 0 ∨ col = 1) ∧ (0 ≤ c ∧ c ≤ 8) ∧ (col = 1 → c ≤ 4) ∧ qIn cx cy c ∧ (1 ≤ de ∧ de ≤ 8) ∧ (1 ≤ le ∧ le ≤ 12) ∧ (0 ≤ sh ∧ sh ≤ 11) ∧ (0 ≤ pu ∧ pu ≤ 3) ∧ (un = 0 ∨ un = 1)
theorem qPts_few {c de le sh pu un : Int} {cx cy : Int → Int} (h : c < 3) : qPts 0 c cx cy de le sh pu un = [] := by
  unfold qPts
  rw [if_pos rfl, if_pos h]
theorem qPts_rows {c de le sh pu : Int} {cx cy : Int → Int} (h : ¬ c < 3) : qPts 0 c cx cy de le sh pu 0 = qRows cx cy c de le sh pu := by
  unfold qPts
  rw [if_pos rfl, if_neg h, if_pos rfl, List.nil_append]
theorem qPts_und {c de le sh pu : Int} {cx cy : Int → Int} (h : ¬ c < 3) : qPts 0 c cx cy de le sh pu 1 = qUnd cx cy c le ++ qRows cx cy c de le sh pu := by
  unfold qPts
  rw [if_pos rfl, if_neg h, if_neg (by decide)]
theorem qPts_col {de le sh pu un : Int} {cx cy : Int → Int} : qPts 1 4 cx cy de le sh pu un = qCol cx cy de := by
  unfold qPts
  rw [if_neg (by decide), if_pos rfl]
theorem qPts_noc {c de le sh pu un : Int} {cx cy : Int → Int} (h : ¬ c = 4) : qPts 1 c cx cy de le sh pu un = [] := by
  unfold qPts
  rw [if_neg (by decide), if_neg h]
theorem pE_needle {col c de le sh pu un dr n cc : Int} {cx cy cr xs ys : Int → Int} (hF : qFd col c cx cy de le sh pu un) (hdr : dr = 0 ∨ dr = 1) (hd : dr = 1 → qPt xs ys n (qPts col c cx cy de le sh pu un)) (hn : (qPts col c cx cy de le sh pu un).length ≤ 2078) :
    ∃ cr' cc' xs' ys' n', f_X0_needlePoints col cx cy cr c cc de le sh pu un dr xs ys n = some (cr', cc', 1, xs', ys', n') ∧ qPt xs' ys' n' (qPts col c cx cy de le sh pu un) := by
  obtain ⟨hcol, hc, hc4, hb, hde, hle, hsh, hpu, hun⟩ := hF
  unfold f_X0_needlePoints
  rcases hdr with q | q
  · subst q
    have hp0 := qPt_nil xs ys
    rcases hcol with q | q
    · subst q
      by_cases c3 : c < 3
      · rw [qPts_few c3]
        refine ⟨cr, cc, xs, ys, 0, ?_, hp0⟩
        simp (disch := omega) only [zck_t, if_pos, if_true]
        rfl
      · rcases hun with q | q
        · subst q
          rw [qPts_rows c3] at hn ⊢
          obtain ⟨cr', cc', xs', ys', n', e, hq⟩ := pE_drawRows (cr := cr) (cc := cc) ⟨by omega, hc.2⟩ hb hde hle hsh hpu hp0 (by rw [List.length_nil]; omega)
          refine ⟨cr', cc', xs', ys', n', ?_, by rw [List.nil_append] at hq; exact hq⟩
          unfold f_X0_needlePoints_53
          simp (disch := omega) only [zck_t, if_neg, if_true, e, zb5_e]
          rfl
        · subst q
          rw [qPts_und c3] at hn ⊢
          rw [List.length_append] at hn
          obtain ⟨xs1, ys1, n1, e1, hq1⟩ := pE_drawUnd ⟨by omega, hc.2⟩ hb hle hp0 (by rw [List.length_nil]; omega)
          obtain ⟨cr', cc', xs', ys', n', e, hq⟩ := pE_drawRows (cr := cr) (cc := cc) ⟨by omega, hc.2⟩ hb hde hle hsh hpu hq1 (by rw [List.length_append, List.length_nil]; omega)
          refine ⟨cr', cc', xs', ys', n', ?_, by rw [List.nil_append] at hq; exact hq⟩
          unfold f_X0_needlePoints_53
          simp (disch := omega) only [zck_t, if_neg, if_true, e1, zb3_e, e, zb5_e]
          rfl
    · subst q
      have h4 := hc4 rfl
      by_cases q4 : c = 4
      · subst q4
        rw [qPts_col] at hn ⊢
        obtain ⟨xs', ys', n', e, hq⟩ := pE_drawCol hb hde hp0 (by rw [List.length_nil]; omega)
        refine ⟨cr, cc, xs', ys', n', ?_, by rw [List.nil_append] at hq; exact hq⟩
        simp (disch := omega) only [zck_t, if_neg, if_true, e, zb3_e]
        rfl
      · rw [qPts_noc q4]
        refine ⟨cr, cc, xs, ys, 0, ?_, hp0⟩
        unfold f_X0_drawColumn
        simp (disch := omega) only [zck_t, if_neg, if_pos, if_true, zb3_e]
        rfl
  · refine ⟨cr, cc, xs, ys, n, ?_, hd q⟩
    subst q
    simp (disch := omega) only [zck_t, if_neg]
