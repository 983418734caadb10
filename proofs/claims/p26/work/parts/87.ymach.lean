/-! ===== files and the machine, over the value of an object ===== -/
theorem yFile_at {fm : Int} {C : List qC} {a : Int → Int} {n t : Int} (h : qRow a n (yFile fm C ++ [t])) (ht : t = qCt a (n - 1) % 256) : n = ((yFile fm C).length : Int) + 1 ∧ ∀ j, 0 ≤ j → j < n → a j = yByt fm C j := by
  have hn : n = ((yFile fm C).length : Int) + 1 := by
    have := h.1
    rw [List.length_append, List.length_singleton] at this
    omega
  refine ⟨hn, fun j h0 h1 => ?_⟩
  have hct : qCt a (n - 1) = qCt (fun i => (yFile fm C).getD i.toNat 0) ((yFile fm C).length : Int) := by
    rw [show n - 1 = (((yFile fm C).length : Nat) : Int) by omega]
    refine qCt_congr (yFile fm C).length (fun v v0 v1 => ?_)
    have e := qRow_at h v0 (by omega)
    rw [List.getElem?_append_left (by omega)] at e
    show a v = (yFile fm C).getD v.toNat 0
    rw [List.getD_eq_getElem?_getD, e]
    rfl
  have e := qRow_at h h0 h1
  rw [ht, hct] at e
  unfold yByt
  rw [List.getD_eq_getElem?_getD, e]
  rfl
theorem yByt_255 {n fm : Int} {C : List qC} (hfm : fm = 0 ∨ fm = 1) (h : ∀ m ∈ C, qWf n m) (j : Int) : 0 ≤ yByt fm C j ∧ yByt fm C j ≤ 255 := by
  unfold yByt
  rw [List.getD_eq_getElem?_getD]
  cases e : (yFile fm C ++ [qCt (fun i => (yFile fm C).getD i.toNat 0) ((yFile fm C).length : Int) % 256])[j.toNat]? with
  | none => exact ⟨Int.le_refl 0, by decide⟩
  | some v =>
    show 0 ≤ v ∧ v ≤ 255
    have hm := List.mem_of_getElem? e
    rcases List.mem_append.mp hm with hm | hm
    · exact qFile_255 hfm h v hm
    · have hv := List.mem_singleton.mp hm
      rw [hv]
      have m0 := Int.emod_nonneg (qCt (fun i => (yFile fm C).getD i.toNat 0) ((yFile fm C).length : Int)) (show (256 : Int) ≠ 0 by decide)
      have m1 := Int.emod_lt_of_pos (qCt (fun i => (yFile fm C).getD i.toNat 0) ((yFile fm C).length : Int)) (show (0 : Int) < 256 by decide)
      omega
theorem yFile_len {S : yS} {fm : Int} (h : yWf S) (hfm : fm = 0 ∨ fm = 1) : ((yFile fm (yC S.1 S.2.1)).length : Int) + 1 ≤ 49924 := by
  obtain ⟨-, hl, hwf, hpc⟩ := yC_ok h.1 h.2.1
  have e := qFile_len hfm hwf
  unfold yFile
  rw [e]
  split <;> omega
theorem yW_write {S : yS} {p1 : Int} (h : yWf S) : yWf (y_write S p1).2.2 := by
  unfold y_write
  by_cases c1 : p1 = 0 ∨ p1 = 1
  · rw [if_neg (not_not_intro c1)]
    refine ⟨h.1, h.2.1, ⟨⟨?_, ?_⟩, c1, fun j _ _ => yByt_255 c1 (yC_ok h.1 h.2.1).2.2.1 j⟩, h.2.2.2⟩
    · show 0 ≤ ((yFile p1 (yC S.1 S.2.1)).length : Int) + 1
      omega
    · exact yFile_len h c1
  · rw [if_pos c1]; exact h
theorem pY_write {S : yS} {w : Int → Int} {pl : Int} {cr : Int → Int → Int} {cn : Int → Int} {dr : Int → Int} {xs : Int → Int → Int} {ys : Int → Int → Int} {sz : Int → Int} {k : Int → Int} {x : Int → Int} {y : Int → Int} {o : Int → Int} {kc : Int → Int} {th : Int → Int} {m : Int} {sec : UInt32} {nx : Int} {ny : Int} {now : Int} {pb : Int → Int} {sa : Int → Int} {br : Int → Int} {ba : Int → Int} {st : Int → Int} {p1 : Int} (h : yIv S pl dr xs ys sz k x y o kc th m sec pb sa br ba st) (hw : zR p1) :
    ∃ (w' : Int → Int) (pl' : Int) (cr' : Int → Int → Int) (cn' : Int → Int) (dr' : Int → Int) (xs' : Int → Int → Int) (ys' : Int → Int → Int) (sz' : Int → Int) (k' : Int → Int) (x' : Int → Int) (y' : Int → Int) (o' : Int → Int) (kc' : Int → Int) (th' : Int → Int) (m' : Int) (sec' : UInt32) (nx' : Int) (ny' : Int) (now' : Int) (pb' : Int → Int), f_X6_write w S.2.1 pl S.1.2.1 S.1.2.2.1 S.1.2.2.2.1 S.1.2.2.2.2.1 S.1.2.2.2.2.2.1 cr S.1.2.2.2.2.2.2.1 cn S.1.2.2.2.2.2.2.2.1 S.1.2.2.2.2.2.2.2.2.1 S.1.2.2.2.2.2.2.2.2.2.1 S.1.2.2.2.2.2.2.2.2.2.2.1 S.1.2.2.2.2.2.2.2.2.2.2.2 dr xs ys sz k x y o kc th m sec nx ny now pb S.2.2.1.1 S.2.2.1.2.1 S.1.1 p1 = some ((y_write S p1).1, (y_write S p1).2.1, w', pl', cr', cn', dr', xs', ys', sz', k', x', y', o', kc', th', m', sec', nx', ny', now', pb', (y_write S p1).2.2.2.2.1.1, (y_write S p1).2.2.2.2.1.2.1) ∧ yIv ((y_write S p1).2.2) pl' dr' xs' ys' sz' k' x' y' o' kc' th' m' sec' pb' sa br ba st := by
  have hW' := yW_write (p1 := p1) h.1
  by_cases c1 : p1 = 0 ∨ p1 = 1
  · obtain ⟨w', cr', cn', dr', xs', ys', sz', k', x', y', o', kc', th', sec', nx', ny', now', e, hr, hI⟩ := yRefresh (w := w) (cr := cr) (cn := cn) (nx := nx) (ny := ny) (now := now) h
    obtain ⟨-, hl, hwf, hpc⟩ := yC_ok h.1.1 h.1.2.1
    obtain ⟨a', n', t, et, hrow, ht, hn'⟩ := pE_take (a := pb) (n0 := S.2.2.1.1) (f0 := S.2.2.1.2.1) c1 hr.1 hl hwf hpc
    obtain ⟨hn, hb⟩ := yFile_at hrow ht
    have e19 : f_X6_write_19 w S.2.1 pl S.1.2.1 S.1.2.2.1 S.1.2.2.2.1 S.1.2.2.2.2.1 S.1.2.2.2.2.2.1 cr S.1.2.2.2.2.2.2.1 cn S.1.2.2.2.2.2.2.2.1 S.1.2.2.2.2.2.2.2.2.1 S.1.2.2.2.2.2.2.2.2.2.1 S.1.2.2.2.2.2.2.2.2.2.2.1 S.1.2.2.2.2.2.2.2.2.2.2.2 dr xs ys sz k x y o kc th m sec nx ny now pb S.2.2.1.1 S.2.2.1.2.1 S.1.1 p1 = some (0, n', w', 1, cr', cn', dr', xs', ys', sz', k', x', y', o', kc', th', ((yC S.1 S.2.1).length : Int), sec', nx', ny', now', a', n', p1) := by
      unfold f_X6_write_19
      rw [e]
      simp only [zb19_e]
      rw [et]
      rfl
    unfold y_write at hW' ⊢
    rw [if_neg (not_not_intro c1)] at hW' ⊢
    refine ⟨w', 1, cr', cn', dr', xs', ys', sz', k', x', y', o', kc', th', _, sec', nx', ny', now', a', ?_, hW', hI.2.1, fun j h0 h1 => hb j h0 (by rw [hn]; exact h1), hI.2.2.2⟩
    unfold f_X6_write
    rw [hn] at e19
    rcases c1 with q | q
    · subst q
      rw [zck_t zR0, if_pos rfl, e19]
    · subst q
      rw [zck_t (by decide), if_neg (by decide), zck_t (by decide), if_pos rfl, e19]
  · refine ⟨w, pl, cr, cn, dr, xs, ys, sz, k, x, y, o, kc, th, m, sec, nx, ny, now, pb, ?_, ?_⟩
    · unfold f_X6_write y_write
      rw [if_pos c1]
      simp (disch := omega) only [zck_t, if_neg]
    · unfold y_write
      rw [if_pos c1]
      exact h
theorem pY_byteAt {S : yS} {pl : Int} {dr : Int → Int} {xs : Int → Int → Int} {ys : Int → Int → Int} {sz : Int → Int} {k : Int → Int} {x : Int → Int} {y : Int → Int} {o : Int → Int} {kc : Int → Int} {th : Int → Int} {m : Int} {sec : UInt32} {pb : Int → Int} {sa : Int → Int} {br : Int → Int} {ba : Int → Int} {st : Int → Int} {p1 : Int} (h : yIv S pl dr xs ys sz k x y o kc th m sec pb sa br ba st) (hw : zR p1) :
    f_X6_byteAt pb S.2.2.1.1 p1 = some ((y_byteAt S p1).1, (y_byteAt S p1).2) ∧ yIv S pl dr xs ys sz k x y o kc th m sec pb sa br ba st := by
  refine ⟨?_, h⟩
  have hl := h.1.2.2.1.1
  unfold f_X6_byteAt y_byteAt
  by_cases c1 : 0 ≤ p1 ∧ p1 < S.2.2.1.1
  · have hb := h.2.2.1 p1 c1.1 c1.2
    have hh := pE_has hl (p := p1) (by omega)
    rw [if_pos c1.2] at hh
    rw [if_neg (not_not_intro c1), hh]
    simp (disch := omega) only [zck_T, zck_t, if_pos, if_neg, if_true, if_false, not_true_eq_false, not_false_eq_true, zb1_e, zb2_e, zb3_e, zb4_e, zb5_e, zb6_e, zb8_e, zb19_e, zlt, zup_s, hb]
  · have hh : f_X2_has S.2.2.1.1 p1 = some 0 := by
      unfold f_X2_has
      by_cases d : p1 < 0
      · simp (disch := omega) only [zck_t, if_pos]
      · simp (disch := omega) only [zck_t, if_pos, if_neg]
    rw [if_pos c1, hh]
    simp (disch := omega) only [zck_T, zck_t, if_pos, if_neg, if_true, if_false, not_true_eq_false, not_false_eq_true, zb1_e, zb2_e, zb3_e, zb4_e, zb5_e, zb6_e, zb8_e, zb19_e, zlt, zup_s]
theorem yW_damage {S : yS} {p1 p2 : Int} (h : yWf S) : yWf (y_damage S p1 p2).2.2 := by
  unfold y_damage
  by_cases c1 : 0 ≤ p1 ∧ p1 < S.2.2.1.1
  · by_cases c2 : 0 ≤ p2 ∧ p2 ≤ 255
    · rw [if_neg (not_not_intro c1), if_neg (not_not_intro c2)]
      refine ⟨h.1, h.2.1, ⟨h.2.2.1.1, h.2.2.1.2.1, fun j h0 h1 => ?_⟩, h.2.2.2⟩
      show 0 ≤ zup S.2.2.1.2.2 p1 p2 j ∧ zup S.2.2.1.2.2 p1 p2 j ≤ 255
      by_cases c : j = p1
      · rw [c, zup_s]
        exact c2
      · rw [zup_n c]
        exact h.2.2.1.2.2 j h0 h1
    · rw [if_neg (not_not_intro c1), if_pos c2]; exact h
  · rw [if_pos c1]; exact h
theorem pY_damage {S : yS} {pl : Int} {dr : Int → Int} {xs : Int → Int → Int} {ys : Int → Int → Int} {sz : Int → Int} {k : Int → Int} {x : Int → Int} {y : Int → Int} {o : Int → Int} {kc : Int → Int} {th : Int → Int} {m : Int} {sec : UInt32} {pb : Int → Int} {sa : Int → Int} {br : Int → Int} {ba : Int → Int} {st : Int → Int} {p1 p2 : Int} (h : yIv S pl dr xs ys sz k x y o kc th m sec pb sa br ba st) (hw : zR p1 ∧ zR p2) :
    ∃ (pb' : Int → Int), f_X6_damage pb S.2.2.1.1 p1 p2 = some ((y_damage S p1 p2).1, (y_damage S p1 p2).2.1, pb') ∧ yIv ((y_damage S p1 p2).2.2) pl dr xs ys sz k x y o kc th m sec pb' sa br ba st := by
  have hW' := yW_damage (p1 := p1) (p2 := p2) h.1
  have hl := h.1.2.2.1.1
  unfold f_X6_damage
  unfold y_damage at hW' ⊢
  rw [pE_within (by omega)]
  by_cases c1 : 0 ≤ p1 ∧ p1 < S.2.2.1.1
  · have hb := h.2.2.1 p1 c1.1 c1.2
    have hh := pE_has hl (p := p1) (by omega)
    rw [if_pos c1.2] at hh
    by_cases c2 : 0 ≤ p2 ∧ p2 ≤ 255
    · rw [if_neg (not_not_intro c1), if_neg (not_not_intro c2)] at hW' ⊢
      refine ⟨zup pb p1 p2, ?_, hW', h.2.1, fun j h0 h1 => ?_, h.2.2.2⟩
      · rw [hh]
        simp (disch := omega) only [zck_T, zck_t, if_pos, if_neg, if_true, if_false, not_true_eq_false, not_false_eq_true, zb1_e, zb2_e, zb3_e, zb4_e, zb5_e, zb6_e, zb8_e, zb19_e, zlt, zup_s, hb]
      · show zup pb p1 p2 j = zup S.2.2.1.2.2 p1 p2 j
        by_cases c : j = p1
        · rw [c, zup_s, zup_s]
        · rw [zup_n c, zup_n c]
          exact h.2.2.1 j h0 h1
    · rw [if_neg (not_not_intro c1), if_pos c2]
      refine ⟨pb, ?_, h⟩
      rw [hh]
      simp (disch := omega) only [zck_T, zck_t, if_pos, if_neg, if_true, if_false, not_true_eq_false, not_false_eq_true, zb1_e, zb2_e, zb3_e, zb4_e, zb5_e, zb6_e, zb8_e, zb19_e, zlt, zup_s]
  · have hh : f_X2_has S.2.2.1.1 p1 = some 0 := by
      unfold f_X2_has
      by_cases d : p1 < 0
      · simp (disch := omega) only [zck_t, if_pos]
      · simp (disch := omega) only [zck_t, if_pos, if_neg]
    rw [if_pos c1]
    refine ⟨pb, ?_, h⟩
    rw [hh]
    simp (disch := omega) only [zck_T, zck_t, if_pos, if_neg, if_true, if_false, not_true_eq_false, not_false_eq_true, zb1_e, zb2_e, zb3_e, zb4_e, zb5_e, zb6_e, zb8_e, zb19_e, zlt, zup_s]
theorem yW_shorten {S : yS} {p1 : Int} (h : yWf S) : yWf (y_shorten S p1).2.2 := by
  unfold y_shorten
  have hl := h.2.2.1.1
  by_cases c1 : 0 ≤ p1 ∧ p1 ≤ S.2.2.1.1
  · rw [if_neg (not_not_intro c1)]
    exact ⟨h.1, h.2.1, ⟨⟨c1.1, by show p1 ≤ 49924; omega⟩, h.2.2.1.2.1, fun j h0 h1 => h.2.2.1.2.2 j h0 (Int.lt_of_lt_of_le h1 c1.2)⟩, h.2.2.2⟩
  · rw [if_pos c1]; exact h
theorem pY_shorten {S : yS} {pl : Int} {dr : Int → Int} {xs : Int → Int → Int} {ys : Int → Int → Int} {sz : Int → Int} {k : Int → Int} {x : Int → Int} {y : Int → Int} {o : Int → Int} {kc : Int → Int} {th : Int → Int} {m : Int} {sec : UInt32} {pb : Int → Int} {sa : Int → Int} {br : Int → Int} {ba : Int → Int} {st : Int → Int} {p1 : Int} (h : yIv S pl dr xs ys sz k x y o kc th m sec pb sa br ba st) (hw : zR p1) :
    f_X6_shorten S.2.2.1.1 p1 = some ((y_shorten S p1).1, (y_shorten S p1).2.1, (y_shorten S p1).2.2.2.2.1.1) ∧ yIv ((y_shorten S p1).2.2) pl dr xs ys sz k x y o kc th m sec pb sa br ba st := by
  have hW' := yW_shorten (p1 := p1) h.1
  have hl := h.1.2.2.1.1
  unfold f_X6_shorten
  unfold y_shorten at hW' ⊢
  rw [pE_within (by omega)]
  by_cases c1 : 0 ≤ p1 ∧ p1 ≤ S.2.2.1.1
  · rw [if_neg (not_not_intro c1)] at hW' ⊢
    refine ⟨?_, hW', h.2.1, fun j h0 h1 => h.2.2.1 j h0 (Int.lt_of_lt_of_le h1 c1.2), h.2.2.2⟩
    simp (disch := omega) only [zck_T, zck_t, if_pos, if_neg, if_true, if_false, not_true_eq_false, not_false_eq_true, zb1_e, zb2_e, zb3_e, zb4_e, zb5_e, zb6_e, zb8_e, zb19_e, zlt, zup_s]
  · rw [if_pos c1]
    refine ⟨?_, h⟩
    simp (disch := omega) only [zck_T, zck_t, if_pos, if_neg, if_true, if_false, not_true_eq_false, not_false_eq_true, zb1_e, zb2_e, zb3_e, zb4_e, zb5_e, zb6_e, zb8_e, zb19_e, zlt, zup_s]
theorem yRead_e {S : yS} {pb : Int → Int} {fp sr : Int} (hW : yWfL S.2.2.1) (hb : ∀ j, 0 ≤ j → j < S.2.2.1.1 → pb j = S.2.2.1.2.2 j) : f_X2_inspect pb S.2.2.1.1 S.2.2.1.2.1 fp sr = some ((yRead S.2.2.1).1, (yRead S.2.2.1).2) := by
  have e := pE_inspect (f0 := fp) (s0 := sr) hW.2.1 hW.1 (b := pb) (fun j h0 h1 => by rw [hb j h0 h1]; exact hW.2.2 j h0 h1)
  rw [qRd_congr hb _ 0 0 (Int.le_refl 0)] at e
  exact e
theorem pY_fault {S : yS} {pl : Int} {dr : Int → Int} {xs : Int → Int → Int} {ys : Int → Int → Int} {sz : Int → Int} {k : Int → Int} {x : Int → Int} {y : Int → Int} {o : Int → Int} {kc : Int → Int} {th : Int → Int} {m : Int} {sec : UInt32} {pb : Int → Int} {fp : Int} {sr : Int} {sa : Int → Int} {br : Int → Int} {ba : Int → Int} {st : Int → Int} (h : yIv S pl dr xs ys sz k x y o kc th m sec pb sa br ba st) :
    ∃ (fp' : Int) (sr' : Int), f_X6_fault pb S.2.2.1.1 S.2.2.1.2.1 fp sr = some ((y_fault S), fp', sr') ∧ yIv S pl dr xs ys sz k x y o kc th m sec pb sa br ba st := by
  refine ⟨(yRead S.2.2.1).1, (yRead S.2.2.1).2, ?_, h⟩
  unfold f_X6_fault y_fault
  rw [yRead_e h.1.2.2.1 h.2.2.1]
  rfl
theorem pY_reads {S : yS} {pl : Int} {dr : Int → Int} {xs : Int → Int → Int} {ys : Int → Int → Int} {sz : Int → Int} {k : Int → Int} {x : Int → Int} {y : Int → Int} {o : Int → Int} {kc : Int → Int} {th : Int → Int} {m : Int} {sec : UInt32} {pb : Int → Int} {fp : Int} {sr : Int} {sa : Int → Int} {br : Int → Int} {ba : Int → Int} {st : Int → Int} (h : yIv S pl dr xs ys sz k x y o kc th m sec pb sa br ba st) :
    ∃ (fp' : Int) (sr' : Int), f_X6_reads pb S.2.2.1.1 S.2.2.1.2.1 fp sr = some ((y_reads S), fp', sr') ∧ yIv S pl dr xs ys sz k x y o kc th m sec pb sa br ba st := by
  refine ⟨(yRead S.2.2.1).1, (yRead S.2.2.1).2, ?_, h⟩
  unfold f_X6_reads y_reads
  rw [yRead_e h.1.2.2.1 h.2.2.1]
  rfl
theorem yCt0 {a : Int → Int} : qCt a 0 = 0 := qCt_0
theorem yMh_q {M : yM} {sa br ba st : Int → Int} (hW : yWfM M) (h : yMh M sa br ba st) {pl : Int} (hp : M.2.2.2.1 ≤ pl) : qMh M.1 pl 0 br ba (fun _ => 0) M.2.2.2.2.2.1 (fun _ => 0) := fun g g0 g1 => by
  refine ⟨⟨rfl, by show -(0 : Int) ≤ 0; decide, Int.le_refl 0⟩, ?_⟩
  have hb := hW.2.2.2.2.2 g g0 g1
  rcases (h.2.2 g g0 g1).2 with q | q
  · exact Or.inl q
  · exact Or.inr ⟨q.1, q.2.1, q.2.2, by omega⟩
theorem pE_stdC {hc la cc pl : Int} {br ba st bk sw : Int → Int} (hb : qMb hc la cc pl) (h : qMh hc pl 0 br ba st bk sw) : f_X1_stands br ba hc la cc pl = some (if yStd hc la cc bk pl = true then 1 else 0) := by
  have H : ∃ q, zlp (fun z => f_X1_stands_L2 br ba hc la cc pl z) zFU 0 = some q ∧ ((yStd hc la cc bk pl = true ∧ q = .inr 1) ∨ (¬ yStd hc la cc bk pl = true ∧ ∃ v, q = .inl v)) := by
    refine zlp_for2 (fun s : Int => s) (lo := 0) (hi := hc) (fun j _ => ¬ qAny (fun h => decide (qSn la cc pl bk h = 1)) 0 j = true) _ hb.1.1 (by have := hb.1; omega) ?_ ?_ 0 rfl (by rw [qAny_nil (Int.le_refl 0)]; decide)
    · intro j h0 h1 hR
      replace h0 : 0 ≤ j := h0
      replace h1 : j < hc := h1
      replace hR : ¬ qAny (fun h => decide (qSn la cc pl bk h = 1)) 0 j = true := hR
      have e := pE_seenC hb h ⟨h0, h1⟩
      obtain ⟨b1, b2, b3, b4⟩ := hb
      rcases qSn_01 (la := la) (cc := cc) (pl := pl) (bk := bk) (h := j) with q | q
      · left
        rw [q] at e
        refine ⟨j + 1, ?_, rfl, ?_⟩
        · show f_X1_stands_L2 br ba hc la cc pl j = _
          unfold f_X1_stands_L2
          simp (disch := omega) only [zck_t, if_pos, if_neg, if_true, zb1_e, e]
        · show ¬ qAny (fun h => decide (qSn la cc pl bk h = 1)) 0 (j + 1) = true
          intro z
          obtain ⟨i, i0, i1, e2⟩ := qAny_iff.mp z
          by_cases d : i = j
          · subst d
            have e2 := of_decide_eq_true e2
            omega
          · exact hR (qAny_iff.mpr ⟨i, i0, by omega, e2⟩)
      · right
        rw [q] at e
        refine ⟨.inr 1, ?_, Or.inl ⟨qAny_iff.mpr ⟨j, h0, h1, decide_eq_true q⟩, rfl⟩⟩
        show f_X1_stands_L2 br ba hc la cc pl j = _
        unfold f_X1_stands_L2
        simp (disch := omega) only [zck_t, if_pos, if_neg, zb1_e, e]
    · intro j h0 hR
      replace h0 : j = hc := h0
      obtain ⟨b1, b2, b3, b4⟩ := hb
      refine ⟨.inl j, ?_, Or.inr ⟨by rw [← h0]; rw [← h0] at hR; exact hR, j, rfl⟩⟩
      show f_X1_stands_L2 br ba hc la cc pl j = _
      unfold f_X1_stands_L2
      simp (disch := omega) only [zck_t, if_pos]
  obtain ⟨q, e, ⟨d, rfl⟩ | ⟨d, v, rfl⟩⟩ := H
  · unfold f_X1_stands
    rw [e, if_pos d]
    rfl
  · unfold f_X1_stands
    rw [e, if_neg d]
    rfl
theorem yRun_ok {hc la cc : Int} {ki bk : Int → Int} (n : Nat) : ∀ (at' : Int) (sw : Int → Int), at' ≤ cc → (at' ≤ (yRun hc la cc ki bk n at' sw).1 ∧ (yRun hc la cc ki bk n at' sw).1 ≤ cc ∧ (yRun hc la cc ki bk n at' sw).1 ≤ at' + n) ∧ ∀ h, sw h ≤ (yRun hc la cc ki bk n at' sw).2 h ∧ (yRun hc la cc ki bk n at' sw).2 h ≤ sw h + (if bk h = -1 then (yRun hc la cc ki bk n at' sw).1 - at' else 0) := by
  induction n with
  | zero =>
    intro at' sw h
    refine ⟨⟨Int.le_refl _, h, by show at' ≤ at' + ((0 : Nat) : Int); omega⟩, fun g => ⟨Int.le_refl _, ?_⟩⟩
    show sw g ≤ sw g + (if bk g = -1 then at' - at' else 0)
    split <;> omega
  | succ n ih =>
    intro at' sw h
    unfold yRun
    by_cases c : at' < cc ∧ yStd hc la cc bk at' = false
    · rw [if_pos c]
      obtain ⟨⟨i1, i2, i3⟩, i4⟩ := ih (at' + 1) (fun h => if bk h = -1 then sw h + qK0 ki at' else sw h) (by omega)
      generalize yRun hc la cc ki bk n (at' + 1) (fun h => if bk h = -1 then sw h + qK0 ki at' else sw h) = r at *
      refine ⟨⟨by omega, i2, by omega⟩, fun g => ?_⟩
      have hg : (if bk g = -1 then sw g + qK0 ki at' else sw g) ≤ r.2 g ∧ r.2 g ≤ (if bk g = -1 then sw g + qK0 ki at' else sw g) + (if bk g = -1 then r.1 - (at' + 1) else 0) := i4 g
      have hk := qK0_01 (k := ki) (j := at')
      by_cases d : bk g = -1
      · rw [if_pos d, if_pos d] at hg
        rw [if_pos d]
        omega
      · rw [if_neg d, if_neg d] at hg
        rw [if_neg d]
        omega
    · rw [if_neg c]
      refine ⟨⟨Int.le_refl _, h, by omega⟩, fun g => ⟨Int.le_refl _, ?_⟩⟩
      show sw g ≤ sw g + (if bk g = -1 then at' - at' else 0)
      split <;> omega
theorem yRun_end {hc la cc : Int} {ki bk : Int → Int} {n : Nat} {at' : Int} {sw : Int → Int} (h : ¬ (at' < cc ∧ yStd hc la cc bk at' = false)) : yRun hc la cc ki bk n at' sw = (at', sw) := by
  cases n with
  | zero => rfl
  | succ n => unfold yRun; rw [if_neg h]
theorem pE_adv {M : yM} {sa br ba st : Int → Int} {w : Int} (hW : yWfM M) (h : yMh M sa br ba st) (hw : 1 ≤ w ∧ w ≤ 1000) : ∃ a, f_X1_advance sa br ba st M.1 M.2.1 M.2.2.1 M.2.2.2.1 w = some ((yRun M.1 M.2.1 M.2.2.1 M.2.2.2.2.1 M.2.2.2.2.2.1 w.toNat M.2.2.2.1 M.2.2.2.2.2.2).1 - M.2.2.2.1, a, (yRun M.1 M.2.1 M.2.2.1 M.2.2.2.2.1 M.2.2.2.2.2.1 w.toNat M.2.2.2.1 M.2.2.2.2.2.2).1) ∧ ∀ g, 0 ≤ g → g < M.1 → a g = (yRun M.1 M.2.1 M.2.2.1 M.2.2.2.2.1 M.2.2.2.2.2.1 w.toNat M.2.2.2.1 M.2.2.2.2.2.2).2 g := by
  obtain ⟨b1, b2, b3, b4, b5, b6⟩ := id hW
  have hq := fun {pl : Int} hp => yMh_q hW h (pl := pl) hp
  obtain ⟨hsa0, hsa, hhd⟩ := id h
  obtain ⟨hc, la, cc, pl, ki, bk, sw⟩ := M
  dsimp only at *
  have H : ∃ r, zlp (fun z => f_X1_advance_L2 sa br ba hc la cc w z.1 z.2.1 z.2.2) zFU (0, st, pl) = some r ∧ ∃ c, yRun hc la cc ki bk w.toNat pl sw = (r.2.2, c) ∧ r.1 = r.2.2 - pl ∧ ∀ g, 0 ≤ g → g < hc → r.2.1 g = c g := by
    refine zlp_rule (fun s : Int × (Int → Int) × Int => ∃ c : Int → Int, (0 ≤ s.1 ∧ s.1 ≤ w) ∧ s.2.2 = pl + s.1 ∧ s.2.2 ≤ cc ∧ (∀ g, 0 ≤ g → g < hc → s.2.1 g = c g) ∧ yRun hc la cc ki bk (w - s.1).toNat s.2.2 c = yRun hc la cc ki bk w.toNat pl sw) _ (fun s => (w - s.1).toNat) ?_ zFU (0, st, pl) ⟨sw, ⟨Int.le_refl 0, by show (0 : Int) ≤ w; omega⟩, by show pl = pl + 0; omega, b4.2, fun g g0 g1 => (hhd g g0 g1).1, by show yRun _ _ _ _ _ (w - 0).toNat pl sw = _; rw [show w - 0 = w by omega]⟩ ?_
    · intro s hI
      obtain ⟨x, a, p⟩ := s
      obtain ⟨c, i1, i2, i3, i4, i5⟩ := hI
      replace i1 : 0 ≤ x ∧ x ≤ w := i1
      replace i2 : p = pl + x := i2
      replace i3 : p ≤ cc := i3
      replace i4 : ∀ g, 0 ≤ g → g < hc → a g = c g := i4
      replace i5 : yRun hc la cc ki bk (w - x).toNat p c = yRun hc la cc ki bk w.toNat pl sw := i5
      show (∃ s2, f_X1_advance_L2 sa br ba hc la cc w x a p = some (.inl s2) ∧ _ ∧ (w - s2.1).toNat < (w - x).toNat) ∨ ∃ r, f_X1_advance_L2 sa br ba hc la cc w x a p = some (.inr r) ∧ _
      have hst := pE_stdC (la := la) (cc := cc) (pl := p) ⟨b1, b2, b3, by omega, i3⟩ (hq (by omega))
      unfold f_X1_advance_L2
      by_cases d1 : w ≤ x
      · right
        refine ⟨(x, a, p), ?_, c, ?_, by show x = p - pl; omega, i4⟩
        · simp (disch := omega) only [zck_t, if_pos]
        · rw [← i5, show (w - x).toNat = 0 by omega]
          rfl
      · by_cases d2 : cc ≤ p
        · right
          refine ⟨(x, a, p), ?_, c, ?_, by show x = p - pl; omega, i4⟩
          · simp (disch := omega) only [zck_t, if_pos, if_neg]
          · rw [← i5]
            exact yRun_end (fun z => by omega)
        · by_cases d3 : yStd hc la cc bk p = true
          · right
            rw [if_pos d3] at hst
            refine ⟨(x, a, p), ?_, c, ?_, by show x = p - pl; omega, i4⟩
            · simp (disch := omega) only [zck_t, if_neg, zb1_e, hst]
            · rw [← i5]
              exact yRun_end (fun z => by rw [d3] at z; exact absurd z.2 (by decide))
          · left
            rw [if_neg d3] at hst
            obtain ⟨st', e3, g3⟩ := pE_stepC (sa := sa) (br := br) (st := a) (ki := ki) b1 b3 (show 0 ≤ p ∧ p < cc by omega) hsa (fun g g0 g1 => by rcases (hhd g g0 g1).2 with q | q; exact Or.inl q.1; exact Or.inr q.1)
            refine ⟨(x + 1, st', p + 1), ?_, ⟨(fun g => if bk g = -1 then c g + qK0 ki p else c g), ⟨by show 0 ≤ x + 1; omega, by show x + 1 ≤ w; omega⟩, by show p + 1 = pl + (x + 1); omega, by show p + 1 ≤ cc; omega, ?_, ?_⟩, ?_⟩
            · simp (disch := omega) only [zck_t, if_neg, if_true, zb1_e, zb2_e, hst, e3]
            · intro g g0 g1
              show st' g = if bk g = -1 then c g + qK0 ki p else c g
              rw [g3 g g0 g1, i4 g g0 g1]
              rcases (hhd g g0 g1).2 with ⟨u1, u2⟩ | ⟨u1, u2, u3⟩
              · rw [if_pos u1, if_pos u2]
              · rw [if_neg (by omega), if_neg (by omega)]
            · show yRun hc la cc ki bk (w - (x + 1)).toNat (p + 1) _ = _
              rw [← i5, show (w - x).toNat = (w - (x + 1)).toNat + 1 by omega]
              rw [yRun]
              rw [if_pos ⟨by omega, by cases hh : yStd hc la cc bk p with | true => exact absurd hh d3 | false => rfl⟩]
            · show (w - (x + 1)).toNat < (w - x).toNat
              omega
    · have : (1000000000 : Nat) ≤ zFU := zFU_ge rfl
      show (w - 0).toNat < zFU
      omega
  obtain ⟨⟨x, a, p⟩, e, c, e1, e2, e3⟩ := H
  replace e1 : yRun hc la cc ki bk w.toNat pl sw = (p, c) := e1
  replace e2 : x = p - pl := e2
  rw [e1]
  refine ⟨a, ?_, e3⟩
  unfold f_X1_advance
  rw [e, e2]
  rfl
theorem yW_run {S : yS} {p1 : Int} (h : yWf S) : yWf (y_run S p1).2.2 := by
  unfold y_run
  by_cases c1 : 1 ≤ p1 ∧ p1 ≤ 1000
  · by_cases c2 : S.2.2.2.1 = 0
    · rw [if_neg (not_not_intro c1), if_pos c2]; exact h
    · rw [if_neg (not_not_intro c1), if_neg c2]
      obtain ⟨m1, m2, m3, m4, m5, m6⟩ := h.2.2.2
      have hr := (yRun_ok (hc := S.2.2.2.1) (la := S.2.2.2.2.1) (cc := S.2.2.2.2.2.1) (ki := S.2.2.2.2.2.2.2.1) (bk := S.2.2.2.2.2.2.2.2.1) p1.toNat S.2.2.2.2.2.2.1 S.2.2.2.2.2.2.2.2.2 m4.2).1
      refine ⟨h.1, h.2.1, h.2.2.1, m1, m2, m3, ⟨Int.le_trans m4.1 hr.1, hr.2.1⟩, m5, fun g g0 g1 => ?_⟩
      rcases m6 g g0 g1 with q | q
      · exact Or.inl q
      · exact Or.inr ⟨q.1, Int.le_trans q.2 hr.1⟩
  · rw [if_pos c1]; exact h
theorem yW_start {S : yS} {p1 p2 : Int} (h : yWf S) : yWf (y_start S p1 p2).2 := by
  unfold y_start
  by_cases c1 : 1 ≤ p1 ∧ p1 ≤ 4
  · by_cases c2 : 0 ≤ p2 ∧ p2 ≤ 20
    · rw [if_neg (not_not_intro c1), if_neg (not_not_intro c2)]
      obtain ⟨-, hl, hwf, hpc⟩ := yC_ok h.1 h.2.1
      refine ⟨h.1, h.2.1, h.2.2.1, ⟨by show 0 ≤ p1; omega, c1.2⟩, c2, ⟨by show 0 ≤ ((yC S.1 S.2.1).length : Int); omega, by show ((yC S.1 S.2.1).length : Int) ≤ 16641; omega⟩, ⟨Int.le_refl 0, by show 0 ≤ ((yC S.1 S.2.1).length : Int); omega⟩, fun j h0 h1 => ?_, fun g _ _ => Or.inl rfl⟩
      show 0 ≤ ((yC S.1 S.2.1).getD j.toNat (0, 0, 0, 0)).1 ∧ ((yC S.1 S.2.1).getD j.toNat (0, 0, 0, 0)).1 ≤ 4
      rw [List.getD_eq_getElem?_getD]
      cases e : (yC S.1 S.2.1)[j.toNat]? with
      | none => exact ⟨Int.le_refl 0, by decide⟩
      | some v => exact (hwf v (List.mem_of_getElem? e)).1
    · rw [if_neg (not_not_intro c1), if_pos c2]; exact h
  · rw [if_pos c1]; exact h
theorem yW_breaks {S : yS} {p1 : Int} (h : yWf S) : yWf (y_breaks S p1).2 := by
  unfold y_breaks
  by_cases c1 : 0 ≤ p1 ∧ p1 ≤ S.2.2.2.1 - 1
  · by_cases c2 : S.2.2.2.2.2.2.2.2.1 p1 = -1
    · rw [if_neg (not_not_intro c1), if_neg (not_not_intro c2)]
      obtain ⟨m1, m2, m3, m4, m5, m6⟩ := h.2.2.2
      refine ⟨h.1, h.2.1, h.2.2.1, m1, m2, m3, m4, m5, fun g g0 g1 => ?_⟩
      show zup S.2.2.2.2.2.2.2.2.1 p1 S.2.2.2.2.2.2.1 g = -1 ∨ (0 ≤ zup S.2.2.2.2.2.2.2.2.1 p1 S.2.2.2.2.2.2.1 g ∧ zup S.2.2.2.2.2.2.2.2.1 p1 S.2.2.2.2.2.2.1 g ≤ S.2.2.2.2.2.2.1)
      by_cases c : g = p1
      · rw [c, zup_s]
        exact Or.inr ⟨m4.1, Int.le_refl _⟩
      · rw [zup_n c]
        exact m6 g g0 g1
    · rw [if_neg (not_not_intro c1), if_pos c2]; exact h
  · rw [if_pos c1]; exact h
theorem yW_mend {S : yS} {p1 : Int} (h : yWf S) : yWf (y_mend S p1).2.2 := by
  unfold y_mend
  by_cases c1 : 0 ≤ p1 ∧ p1 ≤ S.2.2.2.1 - 1
  · by_cases c2 : qSn S.2.2.2.2.1 S.2.2.2.2.2.1 S.2.2.2.2.2.2.1 S.2.2.2.2.2.2.2.2.1 p1 = 1
    · rw [if_neg (not_not_intro c1), if_neg (not_not_intro c2)]
      obtain ⟨m1, m2, m3, m4, m5, m6⟩ := h.2.2.2
      refine ⟨h.1, h.2.1, h.2.2.1, m1, m2, m3, m4, m5, fun g g0 g1 => ?_⟩
      show zup S.2.2.2.2.2.2.2.2.1 p1 (-1) g = -1 ∨ (0 ≤ zup S.2.2.2.2.2.2.2.2.1 p1 (-1) g ∧ zup S.2.2.2.2.2.2.2.2.1 p1 (-1) g ≤ S.2.2.2.2.2.2.1)
      by_cases c : g = p1
      · rw [c, zup_s]
        exact Or.inl rfl
      · rw [zup_n c]
        exact m6 g g0 g1
    · rw [if_neg (not_not_intro c1), if_pos c2]; exact h
  · rw [if_pos c1]; exact h
theorem pY_start {S : yS} {w : Int → Int} {pl : Int} {cr : Int → Int → Int} {cn : Int → Int} {dr : Int → Int} {xs : Int → Int → Int} {ys : Int → Int → Int} {sz : Int → Int} {k : Int → Int} {x : Int → Int} {y : Int → Int} {o : Int → Int} {kc : Int → Int} {th : Int → Int} {m : Int} {sec : UInt32} {nx : Int} {ny : Int} {now : Int} {pb : Int → Int} {sa : Int → Int} {br : Int → Int} {ba : Int → Int} {st : Int → Int} {p1 p2 : Int} (h : yIv S pl dr xs ys sz k x y o kc th m sec pb sa br ba st) (hw : zR p1 ∧ zR p2) :
    ∃ (w' : Int → Int) (pl' : Int) (cr' : Int → Int → Int) (cn' : Int → Int) (dr' : Int → Int) (xs' : Int → Int → Int) (ys' : Int → Int → Int) (sz' : Int → Int) (k' : Int → Int) (x' : Int → Int) (y' : Int → Int) (o' : Int → Int) (kc' : Int → Int) (th' : Int → Int) (m' : Int) (sec' : UInt32) (nx' : Int) (ny' : Int) (now' : Int) (sa' : Int → Int) (br' : Int → Int) (ba' : Int → Int) (st' : Int → Int), f_X6_start w S.2.1 pl S.1.2.1 S.1.2.2.1 S.1.2.2.2.1 S.1.2.2.2.2.1 S.1.2.2.2.2.2.1 cr S.1.2.2.2.2.2.2.1 cn S.1.2.2.2.2.2.2.2.1 S.1.2.2.2.2.2.2.2.2.1 S.1.2.2.2.2.2.2.2.2.2.1 S.1.2.2.2.2.2.2.2.2.2.2.1 S.1.2.2.2.2.2.2.2.2.2.2.2 dr xs ys sz k x y o kc th m sec nx ny now sa br ba st S.2.2.2.1 S.2.2.2.2.1 S.2.2.2.2.2.1 S.2.2.2.2.2.2.1 S.1.1 p1 p2 = some ((y_start S p1 p2).1, w', pl', cr', cn', dr', xs', ys', sz', k', x', y', o', kc', th', m', sec', nx', ny', now', sa', br', ba', st', (y_start S p1 p2).2.2.2.2.1, (y_start S p1 p2).2.2.2.2.2.1, (y_start S p1 p2).2.2.2.2.2.2.1, (y_start S p1 p2).2.2.2.2.2.2.2.1) ∧ yIv ((y_start S p1 p2).2) pl' dr' xs' ys' sz' k' x' y' o' kc' th' m' sec' pb sa' br' ba' st' := by
  have hW' := yW_start (p1 := p1) (p2 := p2) h.1
  by_cases c1 : 1 ≤ p1 ∧ p1 ≤ 4
  · by_cases c2 : 0 ≤ p2 ∧ p2 ≤ 20
    · obtain ⟨w', cr', cn', dr', xs', ys', sz', k', x', y', o', kc', th', sec', nx', ny', now', e, hr, hI⟩ := yRefresh (w := w) (cr := cr) (cn := cn) (nx := nx) (ny := ny) (now := now) h
      obtain ⟨-, hl, hwf, hpc⟩ := yC_ok h.1.1 h.1.2.1
      have hk : ∀ j, 0 ≤ j → j < ((yC S.1 S.2.1).length : Int) → ((yC S.1 S.2.1).getD j.toNat (0, 0, 0, 0)).1 = k' j := fun j h0 h1 => by
        have := yC_at (w := 0) hr.1 h0 h1
        rw [if_pos rfl] at this
        exact this.symm
      have hk4 : ∀ j, 0 ≤ j → j < ((yC S.1 S.2.1).length : Int) → 0 ≤ k' j ∧ k' j ≤ 4 := fun j h0 h1 => (hwf (k' j, x' j, y' j, o' j) (qRow_mem hr.1 h0 h1)).1
      obtain ⟨sa', br', ba', st', eb, hsa, hbr⟩ := pE_begin (x := x') (y := y') (o := o') (br := br) (ba := ba) (st := st) (hc := S.2.2.2.1) (lc := 0) (w1 := p1) (w2 := p2) (la := S.2.2.2.2.1) (cc := S.2.2.2.2.2.1) (pl := S.2.2.2.2.2.2.1) (show 0 ≤ ((yC S.1 S.2.1).length : Int) ∧ ((yC S.1 S.2.1).length : Int) ≤ 16641 by omega) hk4 h.2.2.2.1
      have hct : ∀ j, 0 ≤ j → j ≤ ((yC S.1 S.2.1).length : Int) → sa' j = qCt (qK0 (fun j => ((yC S.1 S.2.1).getD j.toNat (0, 0, 0, 0)).1)) j := fun j h0 h1 => by
        have e9 := qCt_congr (a := qK0 k') (b := qK0 (fun j => ((yC S.1 S.2.1).getD j.toNat (0, 0, 0, 0)).1)) j.toNat (fun v v0 v1 => by unfold qK0; show (if k' v = 0 then (1 : Int) else 0) = if ((yC S.1 S.2.1).getD v.toNat (0, 0, 0, 0)).1 = 0 then 1 else 0; rw [hk v v0 (by omega)])
        rw [show ((j.toNat : Nat) : Int) = j by omega] at e9
        rw [hsa j h0 h1, e9]
      unfold y_start at hW' ⊢
      rw [if_neg (not_not_intro c1), if_neg (not_not_intro c2)] at hW' ⊢
      refine ⟨w', 1, cr', cn', dr', xs', ys', sz', k', x', y', o', kc', th', _, sec', nx', ny', now', sa', br', ba', st', ?_, hW', hI.2.1, hI.2.2.1, ?_, hct, fun g g0 g1 => ?_⟩
      · unfold f_X6_start
        rw [pE_within (by omega), pE_within (by omega), e]
        simp (disch := omega) only [zck_t, if_pos, if_neg, zb1_e, zb19_e]
        rw [eb]
        rfl
      · rw [hct 0 (Int.le_refl 0) (by omega)]
        exact qCt_0
      · replace g1 : g < p1 := g1
        obtain ⟨u1, u2⟩ := hbr g g0 (by omega)
        exact ⟨u2, Or.inl ⟨u1, rfl⟩⟩
    · unfold y_start
      rw [if_neg (not_not_intro c1), if_pos c2]
      refine ⟨w, pl, cr, cn, dr, xs, ys, sz, k, x, y, o, kc, th, m, sec, nx, ny, now, sa, br, ba, st, ?_, h⟩
      unfold f_X6_start
      rw [pE_within (by omega), pE_within (by omega)]
      simp (disch := omega) only [zck_T, zck_t, if_pos, if_neg, if_true, if_false, not_true_eq_false, not_false_eq_true, zb1_e, zb2_e, zb3_e, zb4_e, zb5_e, zb6_e, zb8_e, zb19_e, zlt, zup_s]
  · unfold y_start
    rw [if_pos c1]
    refine ⟨w, pl, cr, cn, dr, xs, ys, sz, k, x, y, o, kc, th, m, sec, nx, ny, now, sa, br, ba, st, ?_, h⟩
    unfold f_X6_start
    rw [pE_within (by omega), pE_within (by omega)]
    simp (disch := omega) only [zck_T, zck_t, if_pos, if_neg, if_true, if_false, not_true_eq_false, not_false_eq_true, zb1_e, zb2_e, zb3_e, zb4_e, zb5_e, zb6_e, zb8_e, zb19_e, zlt, zup_s]
theorem pY_run {S : yS} {pl : Int} {dr : Int → Int} {xs : Int → Int → Int} {ys : Int → Int → Int} {sz : Int → Int} {k : Int → Int} {x : Int → Int} {y : Int → Int} {o : Int → Int} {kc : Int → Int} {th : Int → Int} {m : Int} {sec : UInt32} {pb : Int → Int} {sa : Int → Int} {br : Int → Int} {ba : Int → Int} {st : Int → Int} {p1 : Int} (h : yIv S pl dr xs ys sz k x y o kc th m sec pb sa br ba st) (hw : zR p1) :
    ∃ (st' : Int → Int), f_X6_run sa br ba st S.2.2.2.1 S.2.2.2.2.1 S.2.2.2.2.2.1 S.2.2.2.2.2.2.1 p1 = some ((y_run S p1).1, (y_run S p1).2.1, st', (y_run S p1).2.2.2.2.2.2.2.2.1) ∧ yIv ((y_run S p1).2.2) pl dr xs ys sz k x y o kc th m sec pb sa br ba st' := by
  have hW' := yW_run (p1 := p1) h.1
  have hm1 := h.1.2.2.2.1
  unfold y_run at hW' ⊢
  by_cases c1 : 1 ≤ p1 ∧ p1 ≤ 1000
  · by_cases c2 : S.2.2.2.1 = 0
    · rw [if_neg (not_not_intro c1), if_pos c2]
      refine ⟨st, ?_, h⟩
      unfold f_X6_run
      rw [pE_within (by omega)]
      simp (disch := omega) only [zck_T, zck_t, if_pos, if_neg, if_true, if_false, not_true_eq_false, not_false_eq_true, zb1_e, zb2_e, zb3_e, zb4_e, zb5_e, zb6_e, zb8_e, zb19_e, zlt, zup_s]
    · rw [if_neg (not_not_intro c1), if_neg c2] at hW' ⊢
      obtain ⟨a, e, ha⟩ := pE_adv h.1.2.2.2 h.2.2.2 c1
      refine ⟨a, ?_, hW', h.2.1, h.2.2.1, h.2.2.2.1, h.2.2.2.2.1, fun g g0 g1 => ?_⟩
      · unfold f_X6_run
        rw [pE_within (by omega), e]
        simp (disch := omega) only [zck_T, zck_t, if_pos, if_neg, if_true, if_false, not_true_eq_false, not_false_eq_true, zb1_e, zb2_e, zb3_e, zb4_e, zb5_e, zb6_e, zb8_e, zb19_e, zlt, zup_s]
      · refine ⟨ha g g0 g1, ?_⟩
        exact (h.2.2.2.2.2 g g0 g1).2
  · rw [if_pos c1]
    refine ⟨st, ?_, h⟩
    unfold f_X6_run
    rw [pE_within (by omega)]
    simp (disch := omega) only [zck_T, zck_t, if_pos, if_neg, if_true, if_false, not_true_eq_false, not_false_eq_true, zb1_e, zb2_e, zb3_e, zb4_e, zb5_e, zb6_e, zb8_e, zb19_e, zlt, zup_s]
theorem pY_breaks {S : yS} {pl : Int} {dr : Int → Int} {xs : Int → Int → Int} {ys : Int → Int → Int} {sz : Int → Int} {k : Int → Int} {x : Int → Int} {y : Int → Int} {o : Int → Int} {kc : Int → Int} {th : Int → Int} {m : Int} {sec : UInt32} {pb : Int → Int} {sa : Int → Int} {br : Int → Int} {ba : Int → Int} {st : Int → Int} {p1 : Int} (h : yIv S pl dr xs ys sz k x y o kc th m sec pb sa br ba st) (hw : zR p1) :
    ∃ (br' : Int → Int) (ba' : Int → Int), f_X6_breaks br ba S.2.2.2.1 S.2.2.2.2.2.2.1 p1 = some ((y_breaks S p1).1, br', ba') ∧ yIv ((y_breaks S p1).2) pl dr xs ys sz k x y o kc th m sec pb sa br' ba' st := by
  have hW' := yW_breaks (p1 := p1) h.1
  obtain ⟨b1, b2, b3, b4, b5, b6⟩ := h.1.2.2.2
  unfold f_X6_breaks f_X1_tear
  unfold y_breaks at hW' ⊢
  rw [pE_hasH b1 hw]
  by_cases c1 : 0 ≤ p1 ∧ p1 ≤ S.2.2.2.1 - 1
  · have h7 := h.2.2.2.2.2 p1 c1.1 (by omega)
    by_cases c2 : S.2.2.2.2.2.2.2.2.1 p1 = -1
    · have hbr : br p1 = 0 := by
        rcases h7.2 with q | q
        · exact q.1
        · omega
      rw [if_neg (not_not_intro c1), if_neg (not_not_intro c2)] at hW' ⊢
      refine ⟨zup br p1 1, zup ba p1 S.2.2.2.2.2.2.1, ?_, hW', h.2.1, h.2.2.1, h.2.2.2.1, h.2.2.2.2.1, fun g g0 g1 => ?_⟩
      · simp (disch := omega) only [zck_T, zck_t, if_pos, if_neg, if_true, if_false, not_true_eq_false, not_false_eq_true, zb1_e, zb2_e, zb3_e, zb4_e, zb5_e, zb6_e, zb8_e, zb19_e, zlt, zup_s]
      · obtain ⟨t1, t2⟩ := h.2.2.2.2.2 g g0 g1
        refine ⟨t1, ?_⟩
        show (zup br p1 1 g = 0 ∧ zup S.2.2.2.2.2.2.2.2.1 p1 S.2.2.2.2.2.2.1 g = -1) ∨ (zup br p1 1 g = 1 ∧ zup ba p1 S.2.2.2.2.2.2.1 g = zup S.2.2.2.2.2.2.2.2.1 p1 S.2.2.2.2.2.2.1 g ∧ 0 ≤ zup S.2.2.2.2.2.2.2.2.1 p1 S.2.2.2.2.2.2.1 g)
        by_cases c : g = p1
        · rw [c, zup_s, zup_s, zup_s]
          exact Or.inr ⟨rfl, rfl, b4.1⟩
        · rw [zup_n c, zup_n c, zup_n c]
          exact t2
    · have hbr : br p1 = 1 := by
        rcases h7.2 with q | q
        · exact absurd q.2 c2
        · exact q.1
      rw [if_neg (not_not_intro c1), if_pos c2]
      refine ⟨br, ba, ?_, h⟩
      simp (disch := omega) only [zck_T, zck_t, if_pos, if_neg, if_true, if_false, not_true_eq_false, not_false_eq_true, zb1_e, zb2_e, zb3_e, zb4_e, zb5_e, zb6_e, zb8_e, zb19_e, zlt, zup_s]
  · rw [if_pos c1]
    refine ⟨br, ba, ?_, h⟩
    simp (disch := omega) only [zck_T, zck_t, if_pos, if_neg, if_true, if_false, not_true_eq_false, not_false_eq_true, zb1_e, zb2_e, zb3_e, zb4_e, zb5_e, zb6_e, zb8_e, zb19_e, zlt, zup_s]
theorem pY_mend {S : yS} {pl : Int} {dr : Int → Int} {xs : Int → Int → Int} {ys : Int → Int → Int} {sz : Int → Int} {k : Int → Int} {x : Int → Int} {y : Int → Int} {o : Int → Int} {kc : Int → Int} {th : Int → Int} {m : Int} {sec : UInt32} {pb : Int → Int} {sa : Int → Int} {br : Int → Int} {ba : Int → Int} {st : Int → Int} {p1 : Int} (h : yIv S pl dr xs ys sz k x y o kc th m sec pb sa br ba st) (hw : zR p1) :
    ∃ (br' : Int → Int) (st' : Int → Int), f_X6_mend sa br ba st S.2.2.2.1 S.2.2.2.2.1 S.2.2.2.2.2.1 S.2.2.2.2.2.2.1 p1 = some ((y_mend S p1).1, (y_mend S p1).2.1, br', st') ∧ yIv ((y_mend S p1).2.2) pl dr xs ys sz k x y o kc th m sec pb sa br' ba st' := by
  have hW' := yW_mend (p1 := p1) h.1
  obtain ⟨b1, b2, b3, b4, b5, b6⟩ := h.1.2.2.2
  unfold y_mend at hW' ⊢
  by_cases c1 : 0 ≤ p1 ∧ p1 ≤ S.2.2.2.1 - 1
  · have e1 := pE_seenC (p := p1) ⟨b1, b2, b3, b4⟩ (yMh_q h.1.2.2.2 h.2.2.2 (Int.le_refl _)) (by omega)
    have h7 := h.2.2.2.2.2 p1 c1.1 (by omega)
    by_cases c2 : qSn S.2.2.2.2.1 S.2.2.2.2.2.1 S.2.2.2.2.2.2.1 S.2.2.2.2.2.2.2.2.1 p1 = 1
    · rw [c2] at e1
      rw [if_neg (not_not_intro c1), if_neg (not_not_intro c2)] at hW' ⊢
      have hbk : ba p1 = S.2.2.2.2.2.2.2.2.1 p1 ∧ 0 ≤ S.2.2.2.2.2.2.2.2.1 p1 ∧ S.2.2.2.2.2.2.2.2.1 p1 ≤ S.2.2.2.2.2.2.1 := by
        have h8 := b6 p1 c1.1 (by omega)
        rcases h7.2 with ⟨u1, u2⟩ | ⟨u1, u2, u3⟩
        · unfold qSn at c2
          rw [if_pos u2] at c2
          omega
        · exact ⟨u2, u3, by omega⟩
      obtain ⟨k1, k2, k3⟩ := hbk
      have hlo : 0 ≤ max 0 (S.2.2.2.2.2.2.2.2.1 p1 - 3) ∧ max 0 (S.2.2.2.2.2.2.2.2.1 p1 - 3) ≤ S.2.2.2.2.2.2.1 := by omega
      generalize hlo9 : max 0 (S.2.2.2.2.2.2.2.2.1 p1 - 3) = lo at *
      have hbt : f_X1_stitchesBetween sa lo S.2.2.2.2.2.2.1 = some (yBet S.2.2.2.2.2.2.2.1 lo S.2.2.2.2.2.2.1) := by
        unfold f_X1_stitchesBetween yBet
        simp (disch := omega) only [zck_t, if_pos, if_neg]
        rw [h.2.2.2.2.1 _ (by omega) (by show S.2.2.2.2.2.2.1 ≤ S.2.2.2.2.2.1; omega), h.2.2.2.2.1 _ (by omega) (by show lo ≤ S.2.2.2.2.2.1; omega)]
      have hs7 := h7.1
      refine ⟨zup br p1 0, zup st p1 (st p1 + yBet S.2.2.2.2.2.2.2.1 lo S.2.2.2.2.2.2.1), ?_, hW', h.2.1, h.2.2.1, h.2.2.2.1, h.2.2.2.2.1, fun g g0 g1 => ?_⟩
      · unfold f_X6_mend f_X1_repair
        rw [pE_hasH b1 hw, e1, k1, hlo9]
        simp (disch := omega) only [zck_T, zck_t, if_pos, if_neg, if_true, if_false, not_true_eq_false, not_false_eq_true, zb1_e, zb2_e, zb3_e, zb4_e, zb5_e, zb6_e, zb8_e, zb19_e, zlt, zup_s, hbt]
      · obtain ⟨t1, t2⟩ := h.2.2.2.2.2 g g0 g1
        show zup st p1 _ g = zup S.2.2.2.2.2.2.2.2.2 p1 _ g ∧ ((zup br p1 0 g = 0 ∧ zup S.2.2.2.2.2.2.2.2.1 p1 (-1) g = -1) ∨ (zup br p1 0 g = 1 ∧ ba g = zup S.2.2.2.2.2.2.2.2.1 p1 (-1) g ∧ 0 ≤ zup S.2.2.2.2.2.2.2.2.1 p1 (-1) g))
        by_cases c : g = p1
        · rw [c, zup_s, zup_s, zup_s, zup_s, hs7]
          exact ⟨rfl, Or.inl ⟨rfl, rfl⟩⟩
        · rw [zup_n c, zup_n c, zup_n c, zup_n c]
          exact ⟨t1, t2⟩
    · have c3 : qSn S.2.2.2.2.1 S.2.2.2.2.2.1 S.2.2.2.2.2.2.1 S.2.2.2.2.2.2.2.2.1 p1 = 0 := by
        rcases qSn_01 (la := S.2.2.2.2.1) (cc := S.2.2.2.2.2.1) (pl := S.2.2.2.2.2.2.1) (bk := S.2.2.2.2.2.2.2.2.1) (h := p1) with q | q
        · exact q
        · exact absurd q c2
      rw [c3] at e1
      rw [if_neg (not_not_intro c1), if_pos c2]
      refine ⟨br, st, ?_, h⟩
      unfold f_X6_mend
      rw [pE_hasH b1 hw, e1]
      simp (disch := omega) only [zck_T, zck_t, if_pos, if_neg, if_true, if_false, not_true_eq_false, not_false_eq_true, zb1_e, zb2_e, zb3_e, zb4_e, zb5_e, zb6_e, zb8_e, zb19_e, zlt, zup_s]
  · rw [if_pos c1]
    refine ⟨br, st, ?_, h⟩
    unfold f_X6_mend
    rw [pE_hasH b1 hw]
    simp (disch := omega) only [zck_T, zck_t, if_pos, if_neg, if_true, if_false, not_true_eq_false, not_false_eq_true, zb1_e, zb2_e, zb3_e, zb4_e, zb5_e, zb6_e, zb8_e, zb19_e, zlt, zup_s]
theorem pY_sewn {S : yS} {pl : Int} {dr : Int → Int} {xs : Int → Int → Int} {ys : Int → Int → Int} {sz : Int → Int} {k : Int → Int} {x : Int → Int} {y : Int → Int} {o : Int → Int} {kc : Int → Int} {th : Int → Int} {m : Int} {sec : UInt32} {pb : Int → Int} {sa : Int → Int} {br : Int → Int} {ba : Int → Int} {st : Int → Int} {p1 : Int} (h : yIv S pl dr xs ys sz k x y o kc th m sec pb sa br ba st) (hw : zR p1) :
    f_X6_sewn st S.2.2.2.1 p1 = some ((y_sewn S p1).1, (y_sewn S p1).2) ∧ yIv S pl dr xs ys sz k x y o kc th m sec pb sa br ba st := by
  refine ⟨?_, h⟩
  have b1 := h.1.2.2.2.1
  unfold f_X6_sewn y_sewn
  rw [pE_hasH b1 hw]
  by_cases c1 : 0 ≤ p1 ∧ p1 ≤ S.2.2.2.1 - 1
  · have h7 := (h.2.2.2.2.2 p1 c1.1 (by omega)).1
    simp (disch := omega) only [zck_T, zck_t, if_pos, if_neg, if_true, if_false, not_true_eq_false, not_false_eq_true, zb1_e, zb2_e, zb3_e, zb4_e, zb5_e, zb6_e, zb8_e, zb19_e, zlt, zup_s, h7]
  · simp (disch := omega) only [zck_T, zck_t, if_pos, if_neg, if_true, if_false, not_true_eq_false, not_false_eq_true, zb1_e, zb2_e, zb3_e, zb4_e, zb5_e, zb6_e, zb8_e, zb19_e, zlt, zup_s]
