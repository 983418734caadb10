/-! ===== a file is read ===== -/
def qKd (fm : Int) (b : Int → Int) (p : Int) : Int := if fm = 0 then b p / 32 else b p
abbrev qBad (lim k d : Int) : Prop := (2 ≤ k ∧ ¬ d = 0) ∨ (k < 2 ∧ ¬ (-lim ≤ d ∧ d ≤ lim))
/-- the fault within the command at p; -1 if none -/
def qWr (n fm : Int) (b : Int → Int) (p : Int) : Int :=
  if n ≤ p then n else if 4 < qKd fm b p then p else
  if fm = 0 then (if qBad 12 (qKd fm b p) (b p % 32 - 16) then p else if n ≤ p + 1 then n else if qBad 12 (qKd fm b p) (b (p + 1) - 16) then p + 1 else -1)
  else (if n ≤ p + 1 then n else if qBad 121 (qKd fm b p) (b (p + 1) - 128) then p + 1 else if n ≤ p + 2 then n else if qBad 121 (qKd fm b p) (b (p + 2) - 128) then p + 2 else -1)
theorem zlp_1 {σ ρ : Type} {body : σ → Option (σ ⊕ ρ)} {n : Nat} {s s' : σ} (h : body s = some (.inl s')) : zlp body (n + 1) s = zlp body n s' := by
  rw [zlp]
  rw [h]
theorem zlp_2 {σ ρ : Type} {body : σ → Option (σ ⊕ ρ)} {n : Nat} {s : σ} {r : ρ} (h : body s = some (.inr r)) : zlp body (n + 1) s = some r := by
  rw [zlp]
  rw [h]
theorem zFU_4 : zFU = 999999996 + 1 + 1 + 1 + 1 := rfl
theorem pE_has {n p : Int} (hn : 0 ≤ n ∧ n ≤ 49924) (hp : 0 ≤ p ∧ p ≤ 100000) : f_X2_has n p = some (if p < n then 1 else 0) := by
  unfold f_X2_has
  by_cases h : p < n
  · rw [if_pos h]
    simp (disch := omega) only [zck_t, if_neg]
  · rw [if_neg h]
    simp (disch := omega) only [zck_t, if_neg, if_pos]
theorem pE_kindAt {n fm p : Int} {b : Int → Int} (hfm : fm = 0 ∨ fm = 1) (hn : 0 ≤ n ∧ n ≤ 49924) (hb : ∀ j, 0 ≤ j → j < n → 0 ≤ b j ∧ b j ≤ 255) (hp : 0 ≤ p ∧ p < n) : f_X2_kindAt b n fm p = some (qKd fm b p) ∧ 0 ≤ qKd fm b p ∧ qKd fm b p ≤ 255 := by
  have h := hb p hp.1 hp.2
  unfold f_X2_kindAt qKd
  rw [pE_has hn (by omega), if_pos hp.2]
  rcases hfm with q | q
  · subst q
    rw [if_pos rfl]
    refine ⟨?_, by omega, by omega⟩
    simp (disch := omega) only [zck_t, if_neg, zb1_e, if_true]
    rw [Int.tdiv_eq_ediv_of_nonneg h.1]
  · subst q
    rw [if_neg (by decide)]
    refine ⟨?_, by omega, by omega⟩
    simp (disch := omega) only [zck_t, if_neg, zb1_e]
def qDf (fm : Int) (b : Int → Int) (p i : Int) : Int := if fm = 0 then (if i = 0 then b p % 32 - 16 else b (p + i) - 16) else (if i = 0 then 0 else b (p + i) - 128)
theorem pE_wstep {n fm p i k : Int} {b : Int → Int} (hfm : fm = 0 ∨ fm = 1) (hn : 0 ≤ n ∧ n ≤ 49924) (hb : ∀ j, 0 ≤ j → j < n → 0 ≤ b j ∧ b j ≤ 255) (hp : 0 ≤ p ∧ p < n) (hk : 0 ≤ k ∧ k ≤ 255) (hi : 0 ≤ i ∧ i < (if fm = 0 then 2 else 3)) :
    f_X2_wrongWithin_L8 b n fm p k i = some (if n ≤ p + i then .inr (.inr n) else if 4 < k then .inr (.inr (p + i)) else if qBad (qLim fm) k (qDf fm b p i) then .inr (.inr (p + i)) else .inl (i + 1)) := by
  unfold f_X2_wrongWithin_L8 f_X2_bytesOfCommand f_X2_limit
  by_cases c1 : n ≤ p + i
  · rw [if_pos c1]
    have hh : f_X2_has n (p + i) = some 0 := by
      rw [pE_has hn (by split at hi <;> omega), if_neg (by omega)]
    rcases hfm with q | q
    · subst q
      rw [if_pos rfl] at hi
      simp (disch := omega) only [zck_t, if_neg, if_true, zb1_e, zlt, hh]
    · subst q
      rw [if_neg (by decide)] at hi
      simp (disch := omega) only [zck_t, if_neg, if_true, zb1_e, zlt, hh]
  · rw [if_neg c1]
    have hbp := hb (p + i) (by omega) (by omega)
    have hb0 := hb p hp.1 hp.2
    have hh : f_X2_has n (p + i) = some 1 := by
      rw [pE_has hn (by omega), if_pos (by omega)]
    have hd : f_X2_differenceAt b n fm (p + i) i = some (qDf fm b p i) ∧ -200 ≤ qDf fm b p i ∧ qDf fm b p i ≤ 300 := by
      unfold f_X2_differenceAt qDf
      rw [hh]
      rcases hfm with q | q
      · subst q
        rw [if_pos rfl]
        by_cases z : i = 0
        · subst z
          rw [Int.add_zero] at *
          rw [if_pos rfl]
          refine ⟨?_, by omega, by omega⟩
          simp (disch := omega) only [zck_t, if_neg, if_true, zb1_e]
          rw [Int.tmod_eq_emod_of_nonneg hb0.1]
        · rw [if_neg z]
          refine ⟨?_, by omega, by omega⟩
          simp (disch := omega) only [zck_t, if_neg, if_true, zb1_e]
      · subst q
        rw [if_neg (by decide)]
        by_cases z : i = 0
        · rw [if_pos z]
          refine ⟨?_, by omega, by omega⟩
          simp (disch := omega) only [zck_t, if_neg, if_pos, zb1_e]
        · rw [if_neg z]
          refine ⟨?_, by omega, by omega⟩
          simp (disch := omega) only [zck_t, if_neg, zb1_e]
    obtain ⟨hd, hd1, hd2⟩ := hd
    generalize qDf fm b p i = d at *
    by_cases c2 : 4 < k
    · rw [if_pos c2]
      rcases hfm with q | q
      · subst q
        rw [if_pos rfl] at hi
        simp (disch := omega) only [zck_t, if_neg, if_pos, if_true, zb1_e, zlt, hh, hd]
      · subst q
        rw [if_neg (by decide)] at hi
        simp (disch := omega) only [zck_t, if_neg, if_pos, if_true, zb1_e, zlt, hh, hd]
    · rw [if_neg c2]
      rcases hfm with q | q
      · subst q
        rw [if_pos rfl] at hi
        rw [show qLim 0 = 12 from rfl]
        by_cases c3 : qBad 12 k d
        · rw [if_pos c3]
          by_cases c4 : 12 < (d.natAbs : Int)
          · simp (disch := omega) only [zck_t, if_neg, if_pos, if_true, zb1_e, zlt, hh, hd]
          · simp (disch := omega) only [zck_t, if_neg, if_true, zb1_e, zlt, hh, hd]
        · rw [if_neg c3]
          by_cases c4 : k < 2
          · simp (disch := omega) only [zck_t, if_neg, if_pos, if_true, zb1_e, zlt, hh, hd]
          · simp (disch := omega) only [zck_t, if_neg, if_pos, if_true, zb1_e, zlt, hh, hd]
      · subst q
        rw [if_neg (by decide)] at hi
        rw [show qLim 1 = 121 from rfl]
        by_cases c3 : qBad 121 k d
        · rw [if_pos c3]
          by_cases c4 : 121 < (d.natAbs : Int)
          · simp (disch := omega) only [zck_t, if_neg, if_pos, if_true, zb1_e, zlt, hh, hd]
          · simp (disch := omega) only [zck_t, if_neg, if_true, zb1_e, zlt, hh, hd]
        · rw [if_neg c3]
          by_cases c4 : k < 2
          · simp (disch := omega) only [zck_t, if_neg, if_pos, if_true, zb1_e, zlt, hh, hd]
          · simp (disch := omega) only [zck_t, if_neg, if_pos, if_true, zb1_e, zlt, hh, hd]
theorem pE_wrong {n fm p : Int} {b : Int → Int} (hfm : fm = 0 ∨ fm = 1) (hn : 0 ≤ n ∧ n ≤ 49924) (hb : ∀ j, 0 ≤ j → j < n → 0 ≤ b j ∧ b j ≤ 255) (hp : 0 ≤ p ∧ p < n) : f_X2_wrongWithin b n fm p = some (qWr n fm b p) := by
  obtain ⟨hk, hk1, hk2⟩ := pE_kindAt hfm hn hb hp
  unfold f_X2_wrongWithin
  rw [hk]
  simp only [zb1_e]
  have h0 := pE_wstep (i := 0) (k := qKd fm b p) hfm hn hb hp ⟨hk1, hk2⟩ (by split <;> omega)
  have h1 := pE_wstep (i := 1) (k := qKd fm b p) hfm hn hb hp ⟨hk1, hk2⟩ (by split <;> omega)
  rw [Int.add_zero] at h0
  rw [if_neg (by omega)] at h0
  unfold qWr
  rw [if_neg (show ¬ n ≤ p by omega)]
  have run : ∀ r, zlp (fun z => f_X2_wrongWithin_L8 b n fm p (qKd fm b p) z) zFU 0 = some r → ∀ V, (zbs (some r) (fun _ => some (-1)) (fun b => some b)) = some V → zbs (zlp (fun z => f_X2_wrongWithin_L8 b n fm p (qKd fm b p) z) zFU 0) (fun w37 => some (-1)) (fun b => some b) = some V := by
    intro r hr V hV
    rw [hr]
    exact hV
  by_cases c2 : 4 < qKd fm b p
  · rw [if_pos c2] at h0 ⊢
    exact run _ (by rw [zFU_4]; exact zlp_2 h0) _ rfl
  · rw [if_neg c2] at h0 h1 ⊢
    rcases hfm with q | q
    · subst q
      rw [if_pos rfl]
      rw [show qLim 0 = 12 from rfl] at h0 h1
      have d0 : qDf 0 b p 0 = b p % 32 - 16 := rfl
      have d1 : qDf 0 b p 1 = b (p + 1) - 16 := rfl
      rw [d0] at h0
      rw [d1] at h1
      by_cases c3 : qBad 12 (qKd 0 b p) (b p % 32 - 16)
      · rw [if_pos c3] at h0 ⊢
        exact run _ (by rw [zFU_4]; exact zlp_2 h0) _ rfl
      · rw [if_neg c3] at h0 ⊢
        by_cases c4 : n ≤ p + 1
        · rw [if_pos c4] at h1 ⊢
          exact run _ (by rw [zFU_4, zlp_1 h0]; exact zlp_2 h1) _ rfl
        · rw [if_neg c4] at h1 ⊢
          by_cases c5 : qBad 12 (qKd 0 b p) (b (p + 1) - 16)
          · rw [if_pos c5] at h1 ⊢
            exact run _ (by rw [zFU_4, zlp_1 h0]; exact zlp_2 h1) _ rfl
          · rw [if_neg c5] at h1 ⊢
            have h2 : f_X2_wrongWithin_L8 b n 0 p (qKd 0 b p) 2 = some (.inr (.inl 2)) := by
              unfold f_X2_wrongWithin_L8 f_X2_bytesOfCommand
              simp (disch := omega) only [zck_t, if_true, zb1_e, if_pos]
            exact run _ (by rw [zFU_4, zlp_1 h0, show (0 : Int) + 1 = 1 by rfl, zlp_1 h1, show (1 : Int) + 1 = 2 by rfl]; exact zlp_2 h2) _ rfl
    · subst q
      rw [if_neg (by decide)]
      rw [show qLim 1 = 121 from rfl] at h0 h1
      have d0 : qDf 1 b p 0 = 0 := rfl
      have d1 : qDf 1 b p 1 = b (p + 1) - 128 := rfl
      rw [d0] at h0
      rw [d1] at h1
      rw [if_neg (by unfold qBad; omega)] at h0
      by_cases c4 : n ≤ p + 1
      · rw [if_pos c4] at h1 ⊢
        exact run _ (by rw [zFU_4, zlp_1 h0]; exact zlp_2 h1) _ rfl
      · rw [if_neg c4] at h1 ⊢
        by_cases c5 : qBad 121 (qKd 1 b p) (b (p + 1) - 128)
        · rw [if_pos c5] at h1 ⊢
          exact run _ (by rw [zFU_4, zlp_1 h0]; exact zlp_2 h1) _ rfl
        · rw [if_neg c5] at h1 ⊢
          have h2 := pE_wstep (i := 2) (k := qKd 1 b p) (Or.inr rfl) hn hb hp ⟨hk1, hk2⟩ (by rw [if_neg (by decide)]; omega)
          rw [show qLim 1 = 121 from rfl] at h2
          have d2 : qDf 1 b p 2 = b (p + 2) - 128 := rfl
          rw [d2] at h2
          by_cases c6 : n ≤ p + 2
          · rw [if_pos c6] at h2 ⊢
            exact run _ (by rw [zFU_4, zlp_1 h0, show (0 : Int) + 1 = 1 by rfl, zlp_1 h1, show (1 : Int) + 1 = 2 by rfl]; exact zlp_2 h2) _ rfl
          · rw [if_neg c6, if_neg c2] at h2
            rw [if_neg c6]
            by_cases c7 : qBad 121 (qKd 1 b p) (b (p + 2) - 128)
            · rw [if_pos c7] at h2 ⊢
              exact run _ (by rw [zFU_4, zlp_1 h0, show (0 : Int) + 1 = 1 by rfl, zlp_1 h1, show (1 : Int) + 1 = 2 by rfl]; exact zlp_2 h2) _ rfl
            · rw [if_neg c7] at h2 ⊢
              have h3 : f_X2_wrongWithin_L8 b n 1 p (qKd 1 b p) 3 = some (.inr (.inl 3)) := by
                unfold f_X2_wrongWithin_L8 f_X2_bytesOfCommand
                simp (disch := omega) only [zck_t, if_neg, zb1_e, if_pos]
              exact run _ (by rw [zFU_4, zlp_1 h0, show (0 : Int) + 1 = 1 by rfl, zlp_1 h1, show (1 : Int) + 1 = 2 by rfl, zlp_1 h2, show (2 : Int) + 1 = 3 by rfl]; exact zlp_2 h3) _ rfl
