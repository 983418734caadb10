/-! ===== the class's calls over the value of an object: what changes fields and files ===== -/
theorem yW_field {S : yS} {p1 p2 p3 : Int} (h : yWf S) (h3 : p3 = 0 ∨ p3 = 1) : yWf (y_field S p1 p2 p3).2.2 := by
  obtain ⟨⟨⟨hn, s1⟩, s2⟩, hr⟩ := id h
  unfold y_field
  by_cases c1 : 0 ≤ p1 ∧ p1 ≤ 5
  · by_cases c2 : 0 ≤ p2 ∧ p2 ≤ 3
    · by_cases c3 : 8 ≤ S.1.1
      · rw [if_neg (not_not_intro c1), if_neg (not_not_intro c2), if_pos c3]; exact h
      · rw [if_neg (not_not_intro c1), if_neg (not_not_intro c2), if_neg c3]
        refine ⟨⟨⟨?_, ?_⟩, ?_⟩, hr⟩
        · show 0 ≤ S.1.1 + 1 ∧ S.1.1 + 1 ≤ 8
          omega
        · intro i i0 i1
          replace i1 : i < S.1.1 + 1 := i1
          show (0 ≤ zup _ S.1.1 p2 i ∧ zup _ S.1.1 p2 i < 4) ∧ (0 ≤ zup _ S.1.1 p1 i ∧ zup _ S.1.1 p1 i < 6)
          by_cases c : i = S.1.1
          · rw [c, zup_s, zup_s]
            omega
          · rw [zup_n c, zup_n c]
            exact s1 i i0 (by omega)
        · intro i i0 i1
          replace i1 : i < S.1.1 + 1 := i1
          show qFd (zup _ S.1.1 p3 i) (zup _ S.1.1 0 i) (zup _ S.1.1 (fun _ => 0) i) (zup _ S.1.1 (fun _ => 0) i) (zup _ S.1.1 2 i) (zup _ S.1.1 6 i) (zup _ S.1.1 0 i) (zup _ S.1.1 0 i) (zup _ S.1.1 0 i)
          by_cases c : i = S.1.1
          · rw [c, zup_s, zup_s, zup_s, zup_s, zup_s, zup_s, zup_s, zup_s, zup_s]
            exact ⟨h3, by decide, fun _ => by decide, fun v v0 v1 => by omega, by decide, by decide, by decide, by decide, Or.inl rfl⟩
          · rw [zup_n c, zup_n c, zup_n c, zup_n c, zup_n c, zup_n c, zup_n c, zup_n c, zup_n c]
            exact s2 i i0 (by omega)
    · rw [if_neg (not_not_intro c1), if_pos c2]; exact h
  · rw [if_pos c1]; exact h
theorem yW_corner {S : yS} {p1 p2 p3 : Int} (h : yWf S) : yWf (y_corner S p1 p2 p3).2.2 := by
  obtain ⟨⟨s1, s2⟩, hr⟩ := id h
  unfold y_corner
  by_cases c1 : 0 ≤ p1 ∧ p1 ≤ S.1.1 - 1
  · by_cases c2 : (0 ≤ p2 ∧ p2 ≤ 31) ∧ 0 ≤ p3 ∧ p3 ≤ 31
    · by_cases c4 : S.1.2.2.2.2.2.2.1 p1 < (if S.1.2.2.2.1 p1 = 0 then 8 else 4)
      · rw [if_neg (not_not_intro c1), if_neg (not_not_intro c2), if_neg (not_not_intro c4)]
        refine ⟨⟨s1, fun i i0 i1 => ?_⟩, hr⟩
        show qFd (S.1.2.2.2.1 i) (zup S.1.2.2.2.2.2.2.1 p1 (S.1.2.2.2.2.2.2.1 p1 + 1) i) (zup S.1.2.2.2.2.1 p1 (zup (S.1.2.2.2.2.1 p1) (S.1.2.2.2.2.2.2.1 p1) p2) i) (zup S.1.2.2.2.2.2.1 p1 (zup (S.1.2.2.2.2.2.1 p1) (S.1.2.2.2.2.2.2.1 p1) p3) i) _ _ _ _ _
        obtain ⟨f1, f2, f3, f4, f5⟩ := s2 i i0 i1
        by_cases c : i = p1
        · subst c
          have hlt : S.1.2.2.2.2.2.2.1 i < 8 ∧ (S.1.2.2.2.1 i = 1 → S.1.2.2.2.2.2.2.1 i < 4) := by
            rcases f1 with q | q
            · rw [if_pos q] at c4
              exact ⟨c4, fun z => by omega⟩
            · rw [if_neg (by omega)] at c4
              exact ⟨by omega, fun _ => c4⟩
          rw [zup_s, zup_s, zup_s]
          refine ⟨f1, by omega, fun z => by have := hlt.2 z; omega, fun j j0 j1 => ?_, f5⟩
          by_cases d : j = S.1.2.2.2.2.2.2.1 i
          · rw [d, zup_s, zup_s]
            exact c2
          · rw [zup_n d, zup_n d]
            exact f4 j j0 (by omega)
        · rw [zup_n c, zup_n c, zup_n c]
          exact ⟨f1, f2, f3, f4, f5⟩
      · rw [if_neg (not_not_intro c1), if_neg (not_not_intro c2), if_pos c4]; exact h
    · rw [if_neg (not_not_intro c1), if_pos c2]; exact h
  · rw [if_pos c1]; exact h
theorem pY_corner {S : yS} {pl : Int} {dr : Int → Int} {xs : Int → Int → Int} {ys : Int → Int → Int} {sz : Int → Int} {k : Int → Int} {x : Int → Int} {y : Int → Int} {o : Int → Int} {kc : Int → Int} {th : Int → Int} {m : Int} {sec : UInt32} {pb : Int → Int} {sa : Int → Int} {br : Int → Int} {ba : Int → Int} {st : Int → Int} {p1 p2 p3 : Int} (h : yIv S pl dr xs ys sz k x y o kc th m sec pb sa br ba st) (hw : zR p1 ∧ zR p2 ∧ zR p3) :
    ∃ (pl' : Int) (dr' : Int → Int), f_X6_corner S.1.1 pl S.1.2.2.2.1 S.1.2.2.2.2.1 S.1.2.2.2.2.2.1 S.1.2.2.2.2.2.2.1 dr S.1.1 p1 p2 p3 = some ((y_corner S p1 p2 p3).1, (y_corner S p1 p2 p3).2.1, pl', (y_corner S p1 p2 p3).2.2.1.2.2.2.2.1, (y_corner S p1 p2 p3).2.2.1.2.2.2.2.2.1, (y_corner S p1 p2 p3).2.2.1.2.2.2.2.2.2.1, dr') ∧ yIv ((y_corner S p1 p2 p3).2.2) pl' dr' xs ys sz k x y o kc th m sec pb sa br ba st := by
  obtain ⟨hW, ⟨hD, hpl⟩, hb, hm⟩ := id h
  have hn := hW.1.1.1
  have hW' := yW_corner (p1 := p1) (p2 := p2) (p3 := p3) hW
  unfold f_X6_corner
  unfold y_corner at hW' ⊢
  rw [pE_numbered hn hw.1, pE_within (by omega), pE_within (by omega)]
  by_cases c1 : 0 ≤ p1 ∧ p1 ≤ S.1.1 - 1
  · by_cases c2 : (0 ≤ p2 ∧ p2 ≤ 31) ∧ 0 ≤ p3 ∧ p3 ≤ 31
    · obtain ⟨f1, f2, f3, f4, f5⟩ := hW.1.2 p1 (by omega) (by omega)
      have hfull := pE_full f1 f2
      by_cases c4 : S.1.2.2.2.2.2.2.1 p1 < (if S.1.2.2.2.1 p1 = 0 then 8 else 4)
      · have hlt : S.1.2.2.2.2.2.2.1 p1 < 8 := by split at c4 <;> omega
        have hput : f_X0_putCorner (S.1.2.2.2.2.1 p1) (S.1.2.2.2.2.2.1 p1) (S.1.2.2.2.2.2.2.1 p1) (dr p1) p2 p3 = some (zup (S.1.2.2.2.2.1 p1) (S.1.2.2.2.2.2.2.1 p1) p2, zup (S.1.2.2.2.2.2.1 p1) (S.1.2.2.2.2.2.2.1 p1) p3, S.1.2.2.2.2.2.2.1 p1 + 1, 0) := by
          unfold f_X0_putCorner f_X0_putCorner_44
          simp (disch := omega) only [zck_t, if_neg, zlt]
        rw [if_pos c4] at hfull
        rw [if_neg (not_not_intro c1), if_neg (not_not_intro c2), if_neg (not_not_intro c4)] at hW' ⊢
        refine ⟨0, zup dr p1 0, ?_, hW', ⟨qDr_ch hD ?_, Or.inl rfl⟩, hb, hm⟩
        · simp (disch := omega) only [zck_T, zck_t, if_pos, if_neg, if_true, if_false, not_true_eq_false, not_false_eq_true, zb1_e, zb2_e, zb3_e, zb4_e, zb5_e, zb6_e, zb8_e, zb19_e, zlt, zup_s, hfull, hput]
        · intro i i0 i1 c
          show qPts _ (zup _ p1 _ i) (zup _ p1 _ i) (zup _ p1 _ i) _ _ _ _ _ = qPts _ _ _ _ _ _ _ _ _
          rw [zup_n c, zup_n c, zup_n c]
      · rw [if_neg c4] at hfull
        rw [if_neg (not_not_intro c1), if_neg (not_not_intro c2), if_pos c4]
        refine ⟨pl, dr, ?_, h⟩
        simp (disch := omega) only [zck_T, zck_t, if_pos, if_neg, if_true, if_false, not_true_eq_false, not_false_eq_true, zb1_e, zb2_e, zb3_e, zb4_e, zb5_e, zb6_e, zb8_e, zb19_e, zlt, zup_s, hfull]
    · rw [if_neg (not_not_intro c1), if_pos c2]
      refine ⟨pl, dr, ?_, h⟩
      by_cases c3 : 0 ≤ p2 ∧ p2 ≤ 31
      · have c5 : ¬ (0 ≤ p3 ∧ p3 ≤ 31) := fun z => c2 ⟨c3, z⟩
        simp (disch := omega) only [zck_T, zck_t, if_pos, if_neg, if_true, if_false, not_true_eq_false, not_false_eq_true, zb1_e, zb2_e, zb3_e, zb4_e, zb5_e, zb6_e, zb8_e, zb19_e, zlt, zup_s]
      · simp (disch := omega) only [zck_T, zck_t, if_pos, if_neg, if_true, if_false, not_true_eq_false, not_false_eq_true, zb1_e, zb2_e, zb3_e, zb4_e, zb5_e, zb6_e, zb8_e, zb19_e, zlt, zup_s]
  · rw [if_pos c1]
    refine ⟨pl, dr, ?_, h⟩
    simp (disch := omega) only [zck_T, zck_t, if_pos, if_neg, if_true, if_false, not_true_eq_false, not_false_eq_true, zb1_e, zb2_e, zb3_e, zb4_e, zb5_e, zb6_e, zb8_e, zb19_e, zlt, zup_s]
theorem yW_sew {S : yS} {p1 p2 p3 p4 p5 p6 : Int} (h : yWf S) (h6 : p6 = 0 ∨ p6 = 1) : yWf (y_sew S p1 p2 p3 p4 p5 p6).2 := by
  obtain ⟨⟨s1, s2⟩, hr⟩ := id h
  unfold y_sew
  by_cases c1 : 0 ≤ p1 ∧ p1 ≤ S.1.1 - 1
  · by_cases c2 : 1 ≤ p2 ∧ p2 ≤ 8
    · by_cases c3 : 1 ≤ p3 ∧ p3 ≤ 12
      · by_cases c4 : 0 ≤ p4 ∧ p4 ≤ 11
        · by_cases c5 : 0 ≤ p5 ∧ p5 ≤ 3
          · rw [if_neg (not_not_intro c1), if_neg (not_not_intro c2), if_neg (not_not_intro c3), if_neg (not_not_intro c4), if_neg (not_not_intro c5)]
            refine ⟨⟨s1, fun i i0 i1 => ?_⟩, hr⟩
            show qFd _ _ _ _ (zup _ p1 p2 i) (zup _ p1 p3 i) (zup _ p1 p4 i) (zup _ p1 p5 i) (zup _ p1 p6 i)
            obtain ⟨f1, f2, f3, f4, f5⟩ := s2 i i0 i1
            by_cases c : i = p1
            · subst c
              rw [zup_s, zup_s, zup_s, zup_s, zup_s]
              exact ⟨f1, f2, f3, f4, c2, c3, c4, c5, h6⟩
            · rw [zup_n c, zup_n c, zup_n c, zup_n c, zup_n c]
              exact ⟨f1, f2, f3, f4, f5⟩
          · rw [if_neg (not_not_intro c1), if_neg (not_not_intro c2), if_neg (not_not_intro c3), if_neg (not_not_intro c4), if_pos c5]; exact h
        · rw [if_neg (not_not_intro c1), if_neg (not_not_intro c2), if_neg (not_not_intro c3), if_pos c4]; exact h
      · rw [if_neg (not_not_intro c1), if_neg (not_not_intro c2), if_pos c3]; exact h
    · rw [if_neg (not_not_intro c1), if_pos c2]; exact h
  · rw [if_pos c1]; exact h
theorem pY_sew {S : yS} {pl : Int} {dr : Int → Int} {xs : Int → Int → Int} {ys : Int → Int → Int} {sz : Int → Int} {k : Int → Int} {x : Int → Int} {y : Int → Int} {o : Int → Int} {kc : Int → Int} {th : Int → Int} {m : Int} {sec : UInt32} {pb : Int → Int} {sa : Int → Int} {br : Int → Int} {ba : Int → Int} {st : Int → Int} {p1 p2 p3 p4 p5 p6 : Int} (h : yIv S pl dr xs ys sz k x y o kc th m sec pb sa br ba st) (hw : zR p1 ∧ zR p2 ∧ zR p3 ∧ zR p4 ∧ zR p5) (h6 : p6 = 0 ∨ p6 = 1) :
    ∃ (pl' : Int) (dr' : Int → Int), f_X6_sew S.1.1 pl S.1.2.2.2.2.2.2.2.1 S.1.2.2.2.2.2.2.2.2.1 S.1.2.2.2.2.2.2.2.2.2.1 S.1.2.2.2.2.2.2.2.2.2.2.1 S.1.2.2.2.2.2.2.2.2.2.2.2 dr S.1.1 p1 p2 p3 p4 p5 p6 = some ((y_sew S p1 p2 p3 p4 p5 p6).1, pl', (y_sew S p1 p2 p3 p4 p5 p6).2.1.2.2.2.2.2.2.2.1, (y_sew S p1 p2 p3 p4 p5 p6).2.1.2.2.2.2.2.2.2.2.1, (y_sew S p1 p2 p3 p4 p5 p6).2.1.2.2.2.2.2.2.2.2.2.1, (y_sew S p1 p2 p3 p4 p5 p6).2.1.2.2.2.2.2.2.2.2.2.2.1, (y_sew S p1 p2 p3 p4 p5 p6).2.1.2.2.2.2.2.2.2.2.2.2.2, dr') ∧ yIv ((y_sew S p1 p2 p3 p4 p5 p6).2) pl' dr' xs ys sz k x y o kc th m sec pb sa br ba st := by
  obtain ⟨hW, ⟨hD, hpl⟩, hb, hm⟩ := id h
  have hn := hW.1.1.1
  have hW' := yW_sew (p1 := p1) (p2 := p2) (p3 := p3) (p4 := p4) (p5 := p5) hW h6
  have hset : ∀ a b c d e f, f_X0_settle a b c d e f p2 p3 p4 p5 p6 = some (p2, p3, p4, p5, p6, 0) := by
    intro a b c d e f
    unfold f_X0_settle
    rcases h6 with q | q
    · subst q; first | rfl | simp only [zck_T, zck_t, true_or, or_true, zlt]
    · subst q; first | rfl | simp only [zck_T, zck_t, true_or, or_true, zlt]
  unfold f_X6_sew
  unfold y_sew at hW' ⊢
  rw [pE_numbered hn hw.1, pE_within (by omega), pE_within (by omega), pE_within (by omega), pE_within (by omega)]
  by_cases c1 : 0 ≤ p1 ∧ p1 ≤ S.1.1 - 1
  · by_cases c2 : 1 ≤ p2 ∧ p2 ≤ 8
    · by_cases c3 : 1 ≤ p3 ∧ p3 ≤ 12
      · by_cases c4 : 0 ≤ p4 ∧ p4 ≤ 11
        · by_cases c5 : 0 ≤ p5 ∧ p5 ≤ 3
          · rw [if_neg (not_not_intro c1), if_neg (not_not_intro c2), if_neg (not_not_intro c3), if_neg (not_not_intro c4), if_neg (not_not_intro c5)] at hW' ⊢
            refine ⟨0, zup dr p1 0, ?_, hW', ⟨qDr_ch hD ?_, Or.inl rfl⟩, hb, hm⟩
            · simp (disch := omega) only [zck_T, zck_t, if_pos, if_neg, if_true, if_false, not_true_eq_false, not_false_eq_true, zb1_e, zb2_e, zb3_e, zb4_e, zb5_e, zb6_e, zb8_e, zb19_e, zlt, zup_s, hset]
            · intro i i0 i1 c
              show qPts _ _ _ _ (zup _ p1 _ i) (zup _ p1 _ i) (zup _ p1 _ i) (zup _ p1 _ i) (zup _ p1 _ i) = qPts _ _ _ _ _ _ _ _ _
              rw [zup_n c, zup_n c, zup_n c, zup_n c, zup_n c]
          · rw [if_neg (not_not_intro c1), if_neg (not_not_intro c2), if_neg (not_not_intro c3), if_neg (not_not_intro c4), if_pos c5]
            refine ⟨pl, dr, ?_, h⟩
            simp (disch := omega) only [zck_T, zck_t, if_pos, if_neg, if_true, if_false, not_true_eq_false, not_false_eq_true, zb1_e, zb2_e, zb3_e, zb4_e, zb5_e, zb6_e, zb8_e, zb19_e, zlt, zup_s]
        · rw [if_neg (not_not_intro c1), if_neg (not_not_intro c2), if_neg (not_not_intro c3), if_pos c4]
          refine ⟨pl, dr, ?_, h⟩
          simp (disch := omega) only [zck_T, zck_t, if_pos, if_neg, if_true, if_false, not_true_eq_false, not_false_eq_true, zb1_e, zb2_e, zb3_e, zb4_e, zb5_e, zb6_e, zb8_e, zb19_e, zlt, zup_s]
      · rw [if_neg (not_not_intro c1), if_neg (not_not_intro c2), if_pos c3]
        refine ⟨pl, dr, ?_, h⟩
        simp (disch := omega) only [zck_T, zck_t, if_pos, if_neg, if_true, if_false, not_true_eq_false, not_false_eq_true, zb1_e, zb2_e, zb3_e, zb4_e, zb5_e, zb6_e, zb8_e, zb19_e, zlt, zup_s]
    · rw [if_neg (not_not_intro c1), if_pos c2]
      refine ⟨pl, dr, ?_, h⟩
      simp (disch := omega) only [zck_T, zck_t, if_pos, if_neg, if_true, if_false, not_true_eq_false, not_false_eq_true, zb1_e, zb2_e, zb3_e, zb4_e, zb5_e, zb6_e, zb8_e, zb19_e, zlt, zup_s]
  · rw [if_pos c1]
    refine ⟨pl, dr, ?_, h⟩
    simp (disch := omega) only [zck_T, zck_t, if_pos, if_neg, if_true, if_false, not_true_eq_false, not_false_eq_true, zb1_e, zb2_e, zb3_e, zb4_e, zb5_e, zb6_e, zb8_e, zb19_e, zlt, zup_s]
abbrev yBig (cx cy : Int → Int) (p : Int) : Int → Bool := fun i => decide (31 < max (cx i) (cy i) * p / 100)
theorem pE_canR {c p : Int} {cx cy : Int → Int} (hc : 0 ≤ c ∧ c ≤ 8) (hp : 1 ≤ p ∧ p ≤ 400) (hb : qIn cx cy c) : f_X0_canResize cx cy c p = some (if qAny (yBig cx cy p) 0 c = true then 0 else 1) := by
  have H : ∃ q, zlp (fun z => f_X0_canResize_L2 cx cy c p z) zFU 0 = some q ∧ ((qAny (yBig cx cy p) 0 c = true ∧ q = .inr 0) ∨ (¬ qAny (yBig cx cy p) 0 c = true ∧ ∃ v, q = .inl v)) := by
    refine zlp_for2 (fun s : Int => s) (lo := 0) (hi := c) (fun j _ => ¬ qAny (yBig cx cy p) 0 j = true) _ hc.1 (by omega) ?_ ?_ 0 rfl (by rw [qAny_nil (Int.le_refl 0)]; decide)
    · intro j h0 h1 hR
      replace h0 : 0 ≤ j := h0
      replace h1 : j < c := h1
      replace hR : ¬ qAny (yBig cx cy p) 0 j = true := hR
      have hbs := hb j h0 h1
      have hmx := pE_to (x := max (cx j) (cy j)) (p := p) (by omega) hp
      by_cases d : 31 < max (cx j) (cy j) * p / 100
      · right
        refine ⟨.inr 0, ?_, Or.inl ⟨qAny_iff.mpr ⟨j, h0, h1, decide_eq_true d⟩, rfl⟩⟩
        show f_X0_canResize_L2 cx cy c p j = _
        unfold f_X0_canResize_L2
        simp only [zlt]
        rw [hmx.2]
        simp (disch := omega) only [zck_t, if_neg]
      · left
        refine ⟨j + 1, ?_, rfl, ?_⟩
        · show f_X0_canResize_L2 cx cy c p j = _
          unfold f_X0_canResize_L2
          simp only [zlt]
          rw [hmx.2]
          simp (disch := omega) only [zck_t, if_pos, if_neg]
        · show ¬ qAny (yBig cx cy p) 0 (j + 1) = true
          intro z
          obtain ⟨i, i0, i1, e⟩ := qAny_iff.mp z
          have e := of_decide_eq_true e
          by_cases q : i = j
          · subst q; exact d e
          · exact hR (qAny_iff.mpr ⟨i, i0, by omega, decide_eq_true e⟩)
    · intro j h0 hR
      replace h0 : j = c := h0
      refine ⟨.inl j, ?_, Or.inr ⟨hR, j, rfl⟩⟩
      show f_X0_canResize_L2 cx cy c p j = _
      unfold f_X0_canResize_L2
      simp (disch := omega) only [zck_t, if_pos]
  obtain ⟨q, e, ⟨d, rfl⟩ | ⟨d, v, rfl⟩⟩ := H
  · unfold f_X0_canResize
    rw [e, if_pos d]
    rfl
  · unfold f_X0_canResize
    rw [e, if_neg d]
    rfl
theorem pE_resz {c p dr : Int} {cx cy : Int → Int} (hc : 0 ≤ c ∧ c ≤ 8) (hp : 1 ≤ p ∧ p ≤ 400) (hb : qIn cx cy c) : f_X0_resize cx cy c dr p = some (yRs cx c p, yRs cy c p, 0) := by
  have H : ∃ q, zlp (fun z => f_X0_resize_L2 c dr p z.1 z.2.1 z.2.2) zFU (0, cx, cy) = some q ∧ q.2.1 = yRs cx c p ∧ q.2.2 = yRs cy c p := by
    refine zlp_for (fun s : Int × (Int → Int) × (Int → Int) => s.1) (lo := 0) (hi := c) (fun j s => s.2.1 = yRs cx j p ∧ s.2.2 = yRs cy j p) _ hc.1 (by omega) ?_ ?_ (0, cx, cy) rfl ⟨funext fun i => (if_neg (by omega)).symm, funext fun i => (if_neg (by omega)).symm⟩
    · intro s h0 h1 hR
      obtain ⟨j, a, b⟩ := s
      replace h0 : 0 ≤ j := h0
      replace h1 : j < c := h1
      obtain ⟨r1, r2⟩ := hR
      replace r1 : a = yRs cx j p := r1
      replace r2 : b = yRs cy j p := r2
      have hbs := hb j h0 h1
      have hx := pE_to (p := p) hbs.1 hp
      have hy := pE_to (p := p) hbs.2 hp
      have g1 : a j = cx j := by rw [r1]; exact if_neg (by omega)
      have g2 : b j = cy j := by rw [r2]; exact if_neg (by omega)
      have key : ∀ u : Int → Int, zup (yRs u j p) j (u j * p / 100) = yRs u (j + 1) p := by
        intro u
        funext i
        unfold zup yRs
        by_cases d : i = j
        · rw [if_pos d, if_pos (by omega), d]
        · rw [if_neg d]
          by_cases d2 : 0 ≤ i ∧ i < j
          · rw [if_pos d2, if_pos (by omega)]
          · rw [if_neg d2, if_neg (by omega)]
      refine ⟨(j + 1, zup a j (cx j * p / 100), zup b j (cy j * p / 100)), ?_, rfl, ?_, ?_⟩
      · show f_X0_resize_L2 c dr p j a b = _
        unfold f_X0_resize_L2
        simp only [zlt]
        rw [g1, g2, hx.2, hy.2]
        simp (disch := omega) only [zck_t, if_neg]
      · show zup a j _ = yRs cx (j + 1) p
        rw [r1]
        exact key cx
      · show zup b j _ = yRs cy (j + 1) p
        rw [r2]
        exact key cy
    · intro s h0 hR
      obtain ⟨j, a, b⟩ := s
      replace h0 : j = c := h0
      refine ⟨(j, a, b), ?_, hR⟩
      show f_X0_resize_L2 c dr p j a b = _
      unfold f_X0_resize_L2
      simp (disch := omega) only [zck_t, if_pos]
  obtain ⟨⟨j, a, b⟩, e, r1, r2⟩ := H
  replace r1 : a = yRs cx c p := r1
  replace r2 : b = yRs cy c p := r2
  unfold f_X0_resize
  rw [e, ← r1, ← r2]
  rfl
theorem yW_scale {S : yS} {p1 p2 : Int} (h : yWf S) : yWf (y_scale S p1 p2).2 := by
  obtain ⟨⟨s1, s2⟩, hr⟩ := id h
  unfold y_scale
  by_cases c1 : 0 ≤ p1 ∧ p1 ≤ S.1.1 - 1
  · by_cases c2 : 1 ≤ p2 ∧ p2 ≤ 400
    · by_cases c4 : qAny (yBig (S.1.2.2.2.2.1 p1) (S.1.2.2.2.2.2.1 p1) p2) 0 (S.1.2.2.2.2.2.2.1 p1) = true
      · rw [if_neg (not_not_intro c1), if_neg (not_not_intro c2), if_pos c4]; exact h
      · rw [if_neg (not_not_intro c1), if_neg (not_not_intro c2), if_neg c4]
        refine ⟨⟨s1, fun i i0 i1 => ?_⟩, hr⟩
        show qFd _ _ (zup _ p1 (yRs (S.1.2.2.2.2.1 p1) (S.1.2.2.2.2.2.2.1 p1) p2) i) (zup _ p1 (yRs (S.1.2.2.2.2.2.1 p1) (S.1.2.2.2.2.2.2.1 p1) p2) i) _ _ _ _ _
        obtain ⟨f1, f2, f3, f4, f5⟩ := s2 i i0 i1
        by_cases c : i = p1
        · subst c
          rw [zup_s, zup_s]
          refine ⟨f1, f2, f3, fun v v0 v1 => ?_, f5⟩
          have hbs := f4 v v0 v1
          have hx := pE_to hbs.1 c2
          have hy := pE_to hbs.2 c2
          have hmx := (pE_max hbs.1 hbs.2 c2).mp (Int.lt_of_not_ge fun z => c4 (qAny_iff.mpr ⟨v, v0, v1, decide_eq_true (by omega)⟩))
          have e1 : yRs (S.1.2.2.2.2.1 i) (S.1.2.2.2.2.2.2.1 i) p2 v = S.1.2.2.2.2.1 i v * p2 / 100 := if_pos ⟨v0, v1⟩
          have e2 : yRs (S.1.2.2.2.2.2.1 i) (S.1.2.2.2.2.2.2.1 i) p2 v = S.1.2.2.2.2.2.1 i v * p2 / 100 := if_pos ⟨v0, v1⟩
          rw [e1, e2]
          omega
        · rw [zup_n c, zup_n c]
          exact ⟨f1, f2, f3, f4, f5⟩
    · rw [if_neg (not_not_intro c1), if_pos c2]; exact h
  · rw [if_pos c1]; exact h
theorem pY_scale {S : yS} {pl : Int} {dr : Int → Int} {xs : Int → Int → Int} {ys : Int → Int → Int} {sz : Int → Int} {k : Int → Int} {x : Int → Int} {y : Int → Int} {o : Int → Int} {kc : Int → Int} {th : Int → Int} {m : Int} {sec : UInt32} {pb : Int → Int} {sa : Int → Int} {br : Int → Int} {ba : Int → Int} {st : Int → Int} {p1 p2 : Int} (h : yIv S pl dr xs ys sz k x y o kc th m sec pb sa br ba st) (hw : zR p1 ∧ zR p2) :
    ∃ (pl' : Int) (dr' : Int → Int), f_X6_scale S.1.1 pl S.1.2.2.2.2.1 S.1.2.2.2.2.2.1 S.1.2.2.2.2.2.2.1 dr S.1.1 p1 p2 = some ((y_scale S p1 p2).1, pl', (y_scale S p1 p2).2.1.2.2.2.2.1, (y_scale S p1 p2).2.1.2.2.2.2.2.1, dr') ∧ yIv ((y_scale S p1 p2).2) pl' dr' xs ys sz k x y o kc th m sec pb sa br ba st := by
  obtain ⟨hW, ⟨hD, hpl⟩, hb, hm⟩ := id h
  have hn := hW.1.1.1
  have hW' := yW_scale (p1 := p1) (p2 := p2) hW
  unfold f_X6_scale
  unfold y_scale at hW' ⊢
  rw [pE_numbered hn hw.1, pE_within (by omega)]
  by_cases c1 : 0 ≤ p1 ∧ p1 ≤ S.1.1 - 1
  · by_cases c2 : 1 ≤ p2 ∧ p2 ≤ 400
    · obtain ⟨f1, f2, f3, f4, f5⟩ := hW.1.2 p1 (by omega) (by omega)
      have hcan := pE_canR f2 c2 f4
      have hrs := pE_resz (dr := dr p1) f2 c2 f4
      by_cases c4 : qAny (yBig (S.1.2.2.2.2.1 p1) (S.1.2.2.2.2.2.1 p1) p2) 0 (S.1.2.2.2.2.2.2.1 p1) = true
      · rw [if_pos c4] at hcan
        rw [if_neg (not_not_intro c1), if_neg (not_not_intro c2), if_pos c4]
        refine ⟨pl, dr, ?_, h⟩
        simp (disch := omega) only [zck_T, zck_t, if_pos, if_neg, if_true, if_false, not_true_eq_false, not_false_eq_true, zb1_e, zb2_e, zb3_e, zb4_e, zb5_e, zb6_e, zb8_e, zb19_e, zlt, zup_s, hcan]
      · rw [if_neg c4] at hcan
        rw [if_neg (not_not_intro c1), if_neg (not_not_intro c2), if_neg c4] at hW' ⊢
        refine ⟨0, zup dr p1 0, ?_, hW', ⟨qDr_ch hD ?_, Or.inl rfl⟩, hb, hm⟩
        · simp (disch := omega) only [zck_T, zck_t, if_pos, if_neg, if_true, if_false, not_true_eq_false, not_false_eq_true, zb1_e, zb2_e, zb3_e, zb4_e, zb5_e, zb6_e, zb8_e, zb19_e, zlt, zup_s, hcan, hrs]
        · intro i i0 i1 c
          show qPts _ _ (zup _ p1 _ i) (zup _ p1 _ i) _ _ _ _ _ = qPts _ _ _ _ _ _ _ _ _
          rw [zup_n c, zup_n c]
    · rw [if_neg (not_not_intro c1), if_pos c2]
      refine ⟨pl, dr, ?_, h⟩
      simp (disch := omega) only [zck_T, zck_t, if_pos, if_neg, if_true, if_false, not_true_eq_false, not_false_eq_true, zb1_e, zb2_e, zb3_e, zb4_e, zb5_e, zb6_e, zb8_e, zb19_e, zlt, zup_s]
  · rw [if_pos c1]
    refine ⟨pl, dr, ?_, h⟩
    simp (disch := omega) only [zck_T, zck_t, if_pos, if_neg, if_true, if_false, not_true_eq_false, not_false_eq_true, zb1_e, zb2_e, zb3_e, zb4_e, zb5_e, zb6_e, zb8_e, zb19_e, zlt, zup_s]
theorem yW_bound {S : yS} {p1 : Int} (h : yWf S) : yWf (y_bound S p1).2.2 := by
  obtain ⟨s1, s2, hr⟩ := id h
  unfold y_bound
  by_cases c1 : 0 ≤ p1 ∧ p1 ≤ 100
  · rw [if_neg (not_not_intro c1)]; exact ⟨s1, c1, hr⟩
  · rw [if_pos c1]; exact h
theorem pY_bound {S : yS} {pl : Int} {dr : Int → Int} {xs : Int → Int → Int} {ys : Int → Int → Int} {sz : Int → Int} {k : Int → Int} {x : Int → Int} {y : Int → Int} {o : Int → Int} {kc : Int → Int} {th : Int → Int} {m : Int} {sec : UInt32} {pb : Int → Int} {sa : Int → Int} {br : Int → Int} {ba : Int → Int} {st : Int → Int} {p1 : Int} (h : yIv S pl dr xs ys sz k x y o kc th m sec pb sa br ba st) (hw : zR p1) :
    ∃ (pl' : Int), f_X6_bound S.2.1 pl p1 = some ((y_bound S p1).1, (y_bound S p1).2.1, (y_bound S p1).2.2.2.1, pl') ∧ yIv ((y_bound S p1).2.2) pl' dr xs ys sz k x y o kc th m sec pb sa br ba st := by
  obtain ⟨hW, ⟨hD, hpl⟩, hb, hm⟩ := id h
  have hW' := yW_bound (p1 := p1) hW
  unfold f_X6_bound
  unfold y_bound at hW' ⊢
  rw [pE_within (by omega)]
  by_cases c1 : 0 ≤ p1 ∧ p1 ≤ 100
  · rw [if_neg (not_not_intro c1)] at hW' ⊢
    refine ⟨0, ?_, hW', ⟨hD, Or.inl rfl⟩, hb, hm⟩
    simp (disch := omega) only [zck_T, zck_t, if_pos, if_neg, if_true, if_false, not_true_eq_false, not_false_eq_true, zb1_e, zb2_e, zb3_e, zb4_e, zb5_e, zb6_e, zb8_e, zb19_e, zlt, zup_s]
  · rw [if_pos c1]
    refine ⟨pl, ?_, h⟩
    simp (disch := omega) only [zck_T, zck_t, if_pos, if_neg, if_true, if_false, not_true_eq_false, not_false_eq_true, zb1_e, zb2_e, zb3_e, zb4_e, zb5_e, zb6_e, zb8_e, zb19_e, zlt, zup_s]
