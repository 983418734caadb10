/-- a file as the class and as the model hold it -/
def pFile (n : Int) (pb : Int → Int) (ml : Int) (mb : Int → Int) : Prop := 0 ≤ n ∧ n ≤ 49924 ∧ ml = n ∧ ∀ j, 0 ≤ j → j < n → pb j = mb j ∧ 0 ≤ mb j ∧ mb j ≤ 255
theorem pE_fails {t k : Int} : f_X7_fails t k = some (0, k) := rfl
/-- promise 16's comparison -/
theorem pL_damage {pb mb : Int → Int} {n ml t o w v : Int} (hf : pFile n pb ml mb) (hw : zR w ∧ zR v) : ∃ pb' mb' u o', f_law_damage pb n ml mb t o w v = some (pb', mb', u, o') ∧ pFile n pb' ml mb' := by
  obtain ⟨h0, h1, rfl, hb⟩ := hf
  unfold f_law_damage f_L_damage f_X6_damage f_X7_damage f_X7_thrown f_X2_has
  rw [pE_in (by omega), pE_in (by omega), pE_within (by omega)]
  by_cases c1 : 0 ≤ w ∧ w ≤ ml - 1
  · obtain ⟨e1, e2, e3⟩ := hb w (by omega) (by omega)
    by_cases c2 : 0 ≤ v ∧ v ≤ 255
    · refine ⟨zup pb w v, zup mb w v, 0, mb w, ?_, h0, h1, rfl, fun j j0 j1 => ?_⟩
      · simp (disch := omega) only [zck_t, if_pos, if_neg, if_true, if_false, not_true_eq_false, not_false_eq_true, zb1_e, zb2_e, zb3_e, zlt, pE_asks1, e1]
      · by_cases q : j = w
        · subst q
          rw [zup_s, zup_s]
          omega
        · rw [zup_n q, zup_n q]
          exact hb j j0 j1
    · refine ⟨pb, mb, 2, o, ?_, h0, h1, rfl, hb⟩
      simp (disch := omega) only [zck_t, if_pos, if_neg, if_true, if_false, not_true_eq_false, not_false_eq_true, zb1_e, zb2_e, zb3_e, pE_asks1, pE_fails]
  · refine ⟨pb, mb, 1, o, ?_, h0, h1, rfl, hb⟩
    by_cases h2 : w < 0
    · simp (disch := omega) only [zck_t, if_pos, if_neg, if_true, if_false, not_true_eq_false, not_false_eq_true, zb1_e, zb2_e, zb3_e, pE_asks0]
    · simp (disch := omega) only [zck_t, if_pos, if_neg, if_true, if_false, not_true_eq_false, not_false_eq_true, zb1_e, zb2_e, zb3_e, pE_asks0]
