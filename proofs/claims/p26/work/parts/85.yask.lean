/-! ===== the class's calls over the value of an object: what draws and reckons ===== -/
theorem yAll {f : yF} (h : yWfF f) : qAll f.1 f.2.2.1 f.2.1 (yP f) := qAll_of h.1 h.2
theorem yC_of {f : yF} {bd : Int} {C : List qC} (h : yWfF f) (hp : yPlanOf f bd C) : yC f bd = C := qPlan_u (yAll h) (Classical.epsilon_spec (p := fun C => yPlanOf f bd C) ⟨C, hp⟩) hp
theorem yC_ok {f : yF} {bd : Int} (h : yWfF f) (hb : 0 ≤ bd ∧ bd ≤ 100) : yPlanOf f bd (yC f bd) ∧ (yC f bd).length ≤ 16641 ∧ (∀ m ∈ yC f bd, qWf f.1 m) ∧ qSum qPc (yC f bd) ≤ 23001 := by
  obtain ⟨_, _, _, _, _, _, _, _, _, _, _, _, _, _, _, _, _, _, _, -, C, hC, hl, -⟩ := pR_refresh (pl := 0) (m := 0) (nx := 0) (ny := 0) (now := 0) (sec := 0) (dr := fun _ => 0) (sz := fun _ => 0) (cn := fun _ => 0) (w := fun _ => 0) (k := fun _ => 0) (x := fun _ => 0) (y := fun _ => 0) (o := fun _ => 0) (kc := fun _ => 0) (th := fun _ => 0) (cr := fun _ _ => 0) (xs := fun _ _ => 0) (ys := fun _ _ => 0) h.1 h.2 rfl (fun i _ _ => ⟨Or.inl rfl, fun z => absurd (show (0 : Int) = 1 from z) (by decide)⟩) hb (Or.inl rfl)
  rw [yC_of h hC]
  exact ⟨hC, hl, qPlan_wf (yAll h) hC, qPlan_pc (yAll h) (fun i h0 h1 p => (qPts_b (h.2 i h0 h1)).2 p) hC⟩
theorem yRefresh {S : yS} {w : Int → Int} {pl : Int} {cr : Int → Int → Int} {cn : Int → Int} {dr : Int → Int} {xs : Int → Int → Int} {ys : Int → Int → Int} {sz : Int → Int} {k : Int → Int} {x : Int → Int} {y : Int → Int} {o : Int → Int} {kc : Int → Int} {th : Int → Int} {m : Int} {sec : UInt32} {nx : Int} {ny : Int} {now : Int} {pb : Int → Int} {sa : Int → Int} {br : Int → Int} {ba : Int → Int} {st : Int → Int} (h : yIv S pl dr xs ys sz k x y o kc th m sec pb sa br ba st) :
    ∃ (w' : Int → Int) (cr' : Int → Int → Int) (cn' : Int → Int) (dr' : Int → Int) (xs' : Int → Int → Int) (ys' : Int → Int → Int) (sz' : Int → Int) (k' : Int → Int) (x' : Int → Int) (y' : Int → Int) (o' : Int → Int) (kc' : Int → Int) (th' : Int → Int) (sec' : UInt32) (nx' : Int) (ny' : Int) (now' : Int), f_X6_refresh w S.2.1 pl S.1.2.1 S.1.2.2.1 S.1.2.2.2.1 S.1.2.2.2.2.1 S.1.2.2.2.2.2.1 cr S.1.2.2.2.2.2.2.1 cn S.1.2.2.2.2.2.2.2.1 S.1.2.2.2.2.2.2.2.2.1 S.1.2.2.2.2.2.2.2.2.2.1 S.1.2.2.2.2.2.2.2.2.2.2.1 S.1.2.2.2.2.2.2.2.2.2.2.2 dr xs ys sz k x y o kc th m sec nx ny now S.1.1 = some (w', 1, cr', cn', dr', xs', ys', sz', k', x', y', o', kc', th', ((yC S.1 S.2.1).length : Int), sec', nx', ny', now') ∧ qPR S.1.2.1 (yC S.1 S.2.1) k' x' y' o' kc' th' ((yC S.1 S.2.1).length : Int) sec' ∧ yIv S 1 dr' xs' ys' sz' k' x' y' o' kc' th' ((yC S.1 S.2.1).length : Int) sec' pb sa br ba st := by
  obtain ⟨hW, ⟨hD, hpl⟩, hb, hm⟩ := id h
  obtain ⟨w', cr', cn', dr', xs', ys', sz', k', x', y', o', kc', th', m', sec', nx', ny', now', e, hD', C, hC, hl, hr⟩ := pR_refresh (nx := nx) (ny := ny) (now := now) (w := w) (cr := cr) (cn := cn) hW.1.1 hW.1.2 rfl hD hW.2.1 hpl
  have hCe := yC_of hW.1 hC
  have hmn : m' = (C.length : Int) := hr.1.1
  subst hmn
  subst hCe
  exact ⟨w', cr', cn', dr', xs', ys', sz', k', x', y', o', kc', th', sec', nx', ny', now', e, hr, hW, ⟨hD', Or.inr ⟨rfl, _, hC, hl, hr⟩⟩, hb, hm⟩
theorem yC_at {S : yS} {k x y o : Int → Int} {n : Int} {i w : Int} (h : qCm k x y o n (yC S.1 S.2.1)) (h0 : 0 ≤ i) (h1 : i < n) : (if w = 0 then k i else if w = 1 then x i else if w = 2 then y i else o i) = yTold ((yC S.1 S.2.1).getD i.toNat (0, 0, 0, 0)) w := by
  have e : (yC S.1 S.2.1)[i.toNat]? = some (k i, x i, y i, o i) := qRow_at h h0 h1
  rw [List.getD_eq_getElem?_getD, e]
  rfl
theorem pY_commands {S : yS} {w : Int → Int} {pl : Int} {cr : Int → Int → Int} {cn : Int → Int} {dr : Int → Int} {xs : Int → Int → Int} {ys : Int → Int → Int} {sz : Int → Int} {k : Int → Int} {x : Int → Int} {y : Int → Int} {o : Int → Int} {kc : Int → Int} {th : Int → Int} {m : Int} {sec : UInt32} {nx : Int} {ny : Int} {now : Int} {pb : Int → Int} {sa : Int → Int} {br : Int → Int} {ba : Int → Int} {st : Int → Int} (h : yIv S pl dr xs ys sz k x y o kc th m sec pb sa br ba st) :
    ∃ (w' : Int → Int) (pl' : Int) (cr' : Int → Int → Int) (cn' : Int → Int) (dr' : Int → Int) (xs' : Int → Int → Int) (ys' : Int → Int → Int) (sz' : Int → Int) (k' : Int → Int) (x' : Int → Int) (y' : Int → Int) (o' : Int → Int) (kc' : Int → Int) (th' : Int → Int) (m' : Int) (sec' : UInt32) (nx' : Int) (ny' : Int) (now' : Int), f_X6_commands w S.2.1 pl S.1.2.1 S.1.2.2.1 S.1.2.2.2.1 S.1.2.2.2.2.1 S.1.2.2.2.2.2.1 cr S.1.2.2.2.2.2.2.1 cn S.1.2.2.2.2.2.2.2.1 S.1.2.2.2.2.2.2.2.2.1 S.1.2.2.2.2.2.2.2.2.2.1 S.1.2.2.2.2.2.2.2.2.2.2.1 S.1.2.2.2.2.2.2.2.2.2.2.2 dr xs ys sz k x y o kc th m sec nx ny now S.1.1 = some ((y_commands S), w', pl', cr', cn', dr', xs', ys', sz', k', x', y', o', kc', th', m', sec', nx', ny', now') ∧ yIv S pl' dr' xs' ys' sz' k' x' y' o' kc' th' m' sec' pb sa br ba st := by
  obtain ⟨w', cr', cn', dr', xs', ys', sz', k', x', y', o', kc', th', sec', nx', ny', now', e, hr, hI⟩ := yRefresh (w := w) (cr := cr) (cn := cn) (nx := nx) (ny := ny) (now := now) h
  refine ⟨w', 1, cr', cn', dr', xs', ys', sz', k', x', y', o', kc', th', _, sec', nx', ny', now', ?_, hI⟩
  unfold f_X6_commands y_commands
  rw [e]
  rfl
theorem pY_ofCommand {S : yS} {w : Int → Int} {pl : Int} {cr : Int → Int → Int} {cn : Int → Int} {dr : Int → Int} {xs : Int → Int → Int} {ys : Int → Int → Int} {sz : Int → Int} {k : Int → Int} {x : Int → Int} {y : Int → Int} {o : Int → Int} {kc : Int → Int} {th : Int → Int} {m : Int} {sec : UInt32} {nx : Int} {ny : Int} {now : Int} {pb : Int → Int} {sa : Int → Int} {br : Int → Int} {ba : Int → Int} {st : Int → Int} {p1 p2 : Int} (h : yIv S pl dr xs ys sz k x y o kc th m sec pb sa br ba st) (hw : zR p1 ∧ zR p2) :
    ∃ (w' : Int → Int) (pl' : Int) (cr' : Int → Int → Int) (cn' : Int → Int) (dr' : Int → Int) (xs' : Int → Int → Int) (ys' : Int → Int → Int) (sz' : Int → Int) (k' : Int → Int) (x' : Int → Int) (y' : Int → Int) (o' : Int → Int) (kc' : Int → Int) (th' : Int → Int) (m' : Int) (sec' : UInt32) (nx' : Int) (ny' : Int) (now' : Int), f_X6_ofCommand w S.2.1 pl S.1.2.1 S.1.2.2.1 S.1.2.2.2.1 S.1.2.2.2.2.1 S.1.2.2.2.2.2.1 cr S.1.2.2.2.2.2.2.1 cn S.1.2.2.2.2.2.2.2.1 S.1.2.2.2.2.2.2.2.2.1 S.1.2.2.2.2.2.2.2.2.2.1 S.1.2.2.2.2.2.2.2.2.2.2.1 S.1.2.2.2.2.2.2.2.2.2.2.2 dr xs ys sz k x y o kc th m sec nx ny now S.1.1 p1 p2 = some ((y_ofCommand S p1 p2).1, (y_ofCommand S p1 p2).2, w', pl', cr', cn', dr', xs', ys', sz', k', x', y', o', kc', th', m', sec', nx', ny', now') ∧ yIv S pl' dr' xs' ys' sz' k' x' y' o' kc' th' m' sec' pb sa br ba st := by
  obtain ⟨w', cr', cn', dr', xs', ys', sz', k', x', y', o', kc', th', sec', nx', ny', now', e, hr, hI⟩ := yRefresh (w := w) (cr := cr) (cn := cn) (nx := nx) (ny := ny) (now := now) h
  have hl := (yC_ok h.1.1 h.1.2.1).2.1
  refine ⟨w', 1, cr', cn', dr', xs', ys', sz', k', x', y', o', kc', th', _, sec', nx', ny', now', ?_, hI⟩
  unfold f_X6_ofCommand y_ofCommand
  rw [e]
  simp only [zb19_e]
  rw [pE_within (by omega), pE_within (by omega)]
  by_cases c1 : 0 ≤ p1 ∧ p1 ≤ ((yC S.1 S.2.1).length : Int) - 1
  · by_cases c2 : 0 ≤ p2 ∧ p2 ≤ 3
    · rw [pE_told (by omega) c2, yC_at hr.1 (by omega) (by omega)]
      simp (disch := omega) only [zck_t, if_pos, if_neg, if_true, if_false, not_true_eq_false, not_false_eq_true, zb1_e, zb2_e, zb3_e, zb4_e, zb6_e, zb8_e, zb19_e, zlt]
    · simp (disch := omega) only [zck_t, if_pos, if_neg, if_true, if_false, not_true_eq_false, not_false_eq_true, zb1_e, zb2_e, zb3_e, zb4_e, zb6_e, zb8_e, zb19_e, zlt]
  · simp (disch := omega) only [zck_t, if_pos, if_neg, if_true, if_false, not_true_eq_false, not_false_eq_true, zb1_e, zb2_e, zb3_e, zb4_e, zb6_e, zb8_e, zb19_e, zlt]
theorem pY_count {S : yS} {w : Int → Int} {pl : Int} {cr : Int → Int → Int} {cn : Int → Int} {dr : Int → Int} {xs : Int → Int → Int} {ys : Int → Int → Int} {sz : Int → Int} {k : Int → Int} {x : Int → Int} {y : Int → Int} {o : Int → Int} {kc : Int → Int} {th : Int → Int} {m : Int} {sec : UInt32} {nx : Int} {ny : Int} {now : Int} {pb : Int → Int} {sa : Int → Int} {br : Int → Int} {ba : Int → Int} {st : Int → Int} {p1 : Int} (h : yIv S pl dr xs ys sz k x y o kc th m sec pb sa br ba st) (hw : zR p1) :
    ∃ (w' : Int → Int) (pl' : Int) (cr' : Int → Int → Int) (cn' : Int → Int) (dr' : Int → Int) (xs' : Int → Int → Int) (ys' : Int → Int → Int) (sz' : Int → Int) (k' : Int → Int) (x' : Int → Int) (y' : Int → Int) (o' : Int → Int) (kc' : Int → Int) (th' : Int → Int) (m' : Int) (sec' : UInt32) (nx' : Int) (ny' : Int) (now' : Int), f_X6_count w S.2.1 pl S.1.2.1 S.1.2.2.1 S.1.2.2.2.1 S.1.2.2.2.2.1 S.1.2.2.2.2.2.1 cr S.1.2.2.2.2.2.2.1 cn S.1.2.2.2.2.2.2.2.1 S.1.2.2.2.2.2.2.2.2.1 S.1.2.2.2.2.2.2.2.2.2.1 S.1.2.2.2.2.2.2.2.2.2.2.1 S.1.2.2.2.2.2.2.2.2.2.2.2 dr xs ys sz k x y o kc th m sec nx ny now S.1.1 p1 = some ((y_count S p1).1, (y_count S p1).2, w', pl', cr', cn', dr', xs', ys', sz', k', x', y', o', kc', th', m', sec', nx', ny', now') ∧ yIv S pl' dr' xs' ys' sz' k' x' y' o' kc' th' m' sec' pb sa br ba st := by
  by_cases c1 : 0 ≤ p1 ∧ p1 ≤ 4
  · obtain ⟨w', cr', cn', dr', xs', ys', sz', k', x', y', o', kc', th', sec', nx', ny', now', e, hr, hI⟩ := yRefresh (w := w) (cr := cr) (cn := cn) (nx := nx) (ny := ny) (now := now) h
    refine ⟨w', 1, cr', cn', dr', xs', ys', sz', k', x', y', o', kc', th', _, sec', nx', ny', now', ?_, hI⟩
    unfold f_X6_count y_count
    rw [pE_within (by omega), e]
    have := hr.2.1 p1 (by omega) (by omega)
    simp (disch := omega) only [zck_t, if_pos, if_neg, if_true, if_false, not_true_eq_false, not_false_eq_true, zb1_e, zb2_e, zb3_e, zb4_e, zb6_e, zb8_e, zb19_e, zlt, this]
  · refine ⟨w, pl, cr, cn, dr, xs, ys, sz, k, x, y, o, kc, th, m, sec, nx, ny, now, ?_, h⟩
    unfold f_X6_count y_count
    rw [pE_within (by omega)]
    simp (disch := omega) only [zck_t, if_pos, if_neg, if_true, if_false, not_true_eq_false, not_false_eq_true, zb1_e, zb2_e, zb3_e, zb4_e, zb6_e, zb8_e, zb19_e, zlt]
theorem pY_time {S : yS} {w : Int → Int} {pl : Int} {cr : Int → Int → Int} {cn : Int → Int} {dr : Int → Int} {xs : Int → Int → Int} {ys : Int → Int → Int} {sz : Int → Int} {k : Int → Int} {x : Int → Int} {y : Int → Int} {o : Int → Int} {kc : Int → Int} {th : Int → Int} {m : Int} {sec : UInt32} {nx : Int} {ny : Int} {now : Int} {pb : Int → Int} {sa : Int → Int} {br : Int → Int} {ba : Int → Int} {st : Int → Int} (h : yIv S pl dr xs ys sz k x y o kc th m sec pb sa br ba st) :
    ∃ (w' : Int → Int) (pl' : Int) (cr' : Int → Int → Int) (cn' : Int → Int) (dr' : Int → Int) (xs' : Int → Int → Int) (ys' : Int → Int → Int) (sz' : Int → Int) (k' : Int → Int) (x' : Int → Int) (y' : Int → Int) (o' : Int → Int) (kc' : Int → Int) (th' : Int → Int) (m' : Int) (sec' : UInt32) (nx' : Int) (ny' : Int) (now' : Int), f_X6_time w S.2.1 pl S.1.2.1 S.1.2.2.1 S.1.2.2.2.1 S.1.2.2.2.2.1 S.1.2.2.2.2.2.1 cr S.1.2.2.2.2.2.2.1 cn S.1.2.2.2.2.2.2.2.1 S.1.2.2.2.2.2.2.2.2.1 S.1.2.2.2.2.2.2.2.2.2.1 S.1.2.2.2.2.2.2.2.2.2.2.1 S.1.2.2.2.2.2.2.2.2.2.2.2 dr xs ys sz k x y o kc th m sec nx ny now S.1.1 = some ((y_time S), w', pl', cr', cn', dr', xs', ys', sz', k', x', y', o', kc', th', m', sec', nx', ny', now') ∧ yIv S pl' dr' xs' ys' sz' k' x' y' o' kc' th' m' sec' pb sa br ba st := by
  obtain ⟨w', cr', cn', dr', xs', ys', sz', k', x', y', o', kc', th', sec', nx', ny', now', e, hr, hI⟩ := yRefresh (w := w) (cr := cr) (cn := cn) (nx := nx) (ny := ny) (now := now) h
  refine ⟨w', 1, cr', cn', dr', xs', ys', sz', k', x', y', o', kc', th', _, sec', nx', ny', now', ?_, hI⟩
  unfold f_X6_time y_time
  rw [e, ← hr.2.2.2]
  rfl
theorem pY_thread {S : yS} {w : Int → Int} {pl : Int} {cr : Int → Int → Int} {cn : Int → Int} {dr : Int → Int} {xs : Int → Int → Int} {ys : Int → Int → Int} {sz : Int → Int} {k : Int → Int} {x : Int → Int} {y : Int → Int} {o : Int → Int} {kc : Int → Int} {th : Int → Int} {m : Int} {sec : UInt32} {nx : Int} {ny : Int} {now : Int} {pb : Int → Int} {sa : Int → Int} {br : Int → Int} {ba : Int → Int} {st : Int → Int} {p1 : Int} (h : yIv S pl dr xs ys sz k x y o kc th m sec pb sa br ba st) (hw : zR p1) :
    ∃ (w' : Int → Int) (pl' : Int) (cr' : Int → Int → Int) (cn' : Int → Int) (dr' : Int → Int) (xs' : Int → Int → Int) (ys' : Int → Int → Int) (sz' : Int → Int) (k' : Int → Int) (x' : Int → Int) (y' : Int → Int) (o' : Int → Int) (kc' : Int → Int) (th' : Int → Int) (m' : Int) (sec' : UInt32) (nx' : Int) (ny' : Int) (now' : Int), f_X6_thread w S.2.1 pl S.1.2.1 S.1.2.2.1 S.1.2.2.2.1 S.1.2.2.2.2.1 S.1.2.2.2.2.2.1 cr S.1.2.2.2.2.2.2.1 cn S.1.2.2.2.2.2.2.2.1 S.1.2.2.2.2.2.2.2.2.1 S.1.2.2.2.2.2.2.2.2.2.1 S.1.2.2.2.2.2.2.2.2.2.2.1 S.1.2.2.2.2.2.2.2.2.2.2.2 dr xs ys sz k x y o kc th m sec nx ny now S.1.1 p1 = some ((y_thread S p1).1, (y_thread S p1).2, w', pl', cr', cn', dr', xs', ys', sz', k', x', y', o', kc', th', m', sec', nx', ny', now') ∧ yIv S pl' dr' xs' ys' sz' k' x' y' o' kc' th' m' sec' pb sa br ba st := by
  by_cases c1 : 0 ≤ p1 ∧ p1 ≤ 5
  · obtain ⟨w', cr', cn', dr', xs', ys', sz', k', x', y', o', kc', th', sec', nx', ny', now', e, hr, hI⟩ := yRefresh (w := w) (cr := cr) (cn := cn) (nx := nx) (ny := ny) (now := now) h
    refine ⟨w', 1, cr', cn', dr', xs', ys', sz', k', x', y', o', kc', th', _, sec', nx', ny', now', ?_, hI⟩
    unfold f_X6_thread y_thread
    rw [pE_within (by omega), e]
    have := hr.2.2.1 p1 (by omega) (by omega)
    simp (disch := omega) only [zck_t, if_pos, if_neg, if_true, if_false, not_true_eq_false, not_false_eq_true, zb1_e, zb2_e, zb3_e, zb4_e, zb6_e, zb8_e, zb19_e, zlt, this]
  · refine ⟨w, pl, cr, cn, dr, xs, ys, sz, k, x, y, o, kc, th, m, sec, nx, ny, now, ?_, h⟩
    unfold f_X6_thread y_thread
    rw [pE_within (by omega)]
    simp (disch := omega) only [zck_t, if_pos, if_neg, if_true, if_false, not_true_eq_false, not_false_eq_true, zb1_e, zb2_e, zb3_e, zb4_e, zb6_e, zb8_e, zb19_e, zlt]
theorem pY_touched {S : yS} {pl : Int} {cr : Int → Int → Int} {cn : Int → Int} {dr : Int → Int} {xs : Int → Int → Int} {ys : Int → Int → Int} {sz : Int → Int} {k : Int → Int} {x : Int → Int} {y : Int → Int} {o : Int → Int} {kc : Int → Int} {th : Int → Int} {m : Int} {sec : UInt32} {rc : Int → Int} {rn : Int} {pb : Int → Int} {sa : Int → Int} {br : Int → Int} {ba : Int → Int} {st : Int → Int} {p1 : Int} (h : yIv S pl dr xs ys sz k x y o kc th m sec pb sa br ba st) (hw : zR p1) :
    ∃ (cr' : Int → Int → Int) (cn' : Int → Int) (dr' : Int → Int) (xs' : Int → Int → Int) (ys' : Int → Int → Int) (sz' : Int → Int) (rc' : Int → Int) (rn' : Int), f_X6_touched S.1.1 S.1.2.2.2.1 S.1.2.2.2.2.1 S.1.2.2.2.2.2.1 cr S.1.2.2.2.2.2.2.1 cn S.1.2.2.2.2.2.2.2.1 S.1.2.2.2.2.2.2.2.2.1 S.1.2.2.2.2.2.2.2.2.2.1 S.1.2.2.2.2.2.2.2.2.2.2.1 S.1.2.2.2.2.2.2.2.2.2.2.2 dr xs ys sz rc rn S.1.1 p1 = some ((y_touched S p1).1, (y_touched S p1).2, cr', cn', dr', xs', ys', sz', rc', rn') ∧ yIv S pl dr' xs' ys' sz' k x y o kc th m sec pb sa br ba st := by
  obtain ⟨hW, ⟨hD, hpl⟩, hb, hm⟩ := id h
  have hn := hW.1.1.1
  by_cases c1 : 0 ≤ p1 ∧ p1 ≤ S.1.1 - 1
  · obtain ⟨cr1, cn1, xs1, ys1, n1, ed, hq, hD'⟩ := pE_draw1 (cr := cr) (cn := cn) hW.1.2 (P := yP S.1) rfl hD (i := p1) (by omega) (by omega)
    have hFd := hW.1.2 p1 (by omega) (by omega)
    have hPb := qPts_b hFd
    have hPx := qPts_box hFd
    obtain ⟨ra', rc', ew, hcl, hct⟩ := pE_walk (a := rc) (n := rn) hq hPb.1 hPx
    refine ⟨zup cr p1 cr1, zup cn p1 cn1, zup dr p1 1, zup xs p1 xs1, zup ys p1 ys1, zup sz p1 n1, ra', rc', ?_, hW, ⟨hD', hpl⟩, hb, hm⟩
    unfold f_X6_touched y_touched
    rw [pE_numbered hn hw]
    have hc2 : rc' = qCt (yCel S.1 p1) 1024 := by rw [hct]; exact qCt_congr 1024 hcl
    simp (disch := omega) only [zck_t, if_pos, if_neg, if_true, if_false, not_true_eq_false, not_false_eq_true, zb1_e, zb2_e, zb3_e, zb4_e, zb6_e, zb8_e, zb19_e, zlt, ed, zup_s, ew, hc2]
  · refine ⟨cr, cn, dr, xs, ys, sz, rc, rn, ?_, h⟩
    unfold f_X6_touched y_touched
    rw [pE_numbered hn hw]
    simp (disch := omega) only [zck_t, if_pos, if_neg, if_true, if_false, not_true_eq_false, not_false_eq_true, zb1_e, zb2_e, zb3_e, zb4_e, zb6_e, zb8_e, zb19_e, zlt]
theorem pY_covered {S : yS} {pl : Int} {cr : Int → Int → Int} {cn : Int → Int} {dr : Int → Int} {xs : Int → Int → Int} {ys : Int → Int → Int} {sz : Int → Int} {k : Int → Int} {x : Int → Int} {y : Int → Int} {o : Int → Int} {kc : Int → Int} {th : Int → Int} {m : Int} {sec : UInt32} {rc : Int → Int} {rn : Int} {pb : Int → Int} {sa : Int → Int} {br : Int → Int} {ba : Int → Int} {st : Int → Int} {p1 : Int} (h : yIv S pl dr xs ys sz k x y o kc th m sec pb sa br ba st) (hw : zR p1) :
    ∃ (cr' : Int → Int → Int) (cn' : Int → Int) (dr' : Int → Int) (xs' : Int → Int → Int) (ys' : Int → Int → Int) (sz' : Int → Int) (rc' : Int → Int) (rn' : Int), f_X6_covered S.1.1 S.1.2.2.2.1 S.1.2.2.2.2.1 S.1.2.2.2.2.2.1 cr S.1.2.2.2.2.2.2.1 cn S.1.2.2.2.2.2.2.2.1 S.1.2.2.2.2.2.2.2.2.1 S.1.2.2.2.2.2.2.2.2.2.1 S.1.2.2.2.2.2.2.2.2.2.2.1 S.1.2.2.2.2.2.2.2.2.2.2.2 dr xs ys sz rc rn S.1.1 p1 = some ((y_covered S p1).1, (y_covered S p1).2, cr', cn', dr', xs', ys', sz', rc', rn') ∧ yIv S pl dr' xs' ys' sz' k x y o kc th m sec pb sa br ba st := by
  obtain ⟨hW, ⟨hD, hpl⟩, hb, hm⟩ := id h
  have hn := hW.1.1.1
  by_cases c1 : 0 ≤ p1 ∧ p1 ≤ S.1.1 - 1
  · obtain ⟨hcol, hcc, hc4, hin, hde, hle, hsh, hpu, hun⟩ := hW.1.2 p1 (by omega) (by omega)
    by_cases z : S.1.2.2.2.1 p1 = 0
    · obtain ⟨cr1, cn1, xs1, ys1, n1, ed, hq, hD'⟩ := pE_draw1 (cr := cr) (cn := cn) hW.1.2 (P := yP S.1) rfl hD (i := p1) (by omega) (by omega)
      have hFd := hW.1.2 p1 (by omega) (by omega)
      have hPb := qPts_b hFd
      have hPx := qPts_box hFd
      obtain ⟨ra', rc', ew, hcl, hct⟩ := pE_walk (a := rc) (n := rn) hq hPb.1 hPx
      have hra : ∀ v, 0 ≤ v → v < 1024 → ra' v = 0 ∨ ra' v = 1 := fun v v0 v1 => by rw [hcl v v0 v1]; exact qInd_01
      obtain ⟨cr2, cn2, ep, bA, bB⟩ := pE_part (cr := cr1) (n := cn1) hcc hin hde hra
      have hsame := qFB_congr (cx := S.1.2.2.2.2.1 p1) (cy := S.1.2.2.2.2.2.1 p1) (c := S.1.2.2.2.2.2.2.1 p1) (de := S.1.2.2.2.2.2.2.2.1 p1) (a := ra') (b := yCel S.1 p1) hcl
      rw [hsame] at ep
      refine ⟨zup (zup cr p1 cr1) p1 cr2, zup (zup cn p1 cn1) p1 cn2, zup dr p1 1, zup xs p1 xs1, zup ys p1 ys1, zup sz p1 n1, ra', rc', ?_, hW, ⟨hD', hpl⟩, hb, hm⟩
      unfold f_X6_covered y_covered
      rw [pE_numbered hn hw]
      simp (disch := omega) only [zck_t, if_pos, if_neg, if_true, if_false, not_true_eq_false, not_false_eq_true, zb1_e, zb2_e, zb3_e, zb4_e, zb6_e, zb8_e, zb19_e, zlt, ed, zup_s, ew, ep]
    · refine ⟨cr, cn, dr, xs, ys, sz, rc, rn, ?_, h⟩
      unfold f_X6_covered y_covered
      rw [pE_numbered hn hw]
      simp (disch := omega) only [zck_t, if_pos, if_neg, if_true, if_false, not_true_eq_false, not_false_eq_true, zb1_e, zb2_e, zb3_e, zb4_e, zb6_e, zb8_e, zb19_e, zlt]
  · refine ⟨cr, cn, dr, xs, ys, sz, rc, rn, ?_, h⟩
    unfold f_X6_covered y_covered
    rw [pE_numbered hn hw]
    simp (disch := omega) only [zck_t, if_pos, if_neg, if_true, if_false, not_true_eq_false, not_false_eq_true, zb1_e, zb2_e, zb3_e, zb4_e, zb6_e, zb8_e, zb19_e, zlt]
