/-! ===== the machine ===== -/
theorem zlp_two {σ ρ σ' ρ' : Type} {b : σ → Option (σ ⊕ ρ)} {b' : σ' → Option (σ' ⊕ ρ')} (I : σ → σ' → Prop) (P : ρ → ρ' → Prop) (μ : σ → Nat) (h : ∀ s t, I s t → (∃ s2 t2, b s = some (.inl s2) ∧ b' t = some (.inl t2) ∧ I s2 t2 ∧ μ s2 < μ s) ∨ (∃ r q, b s = some (.inr r) ∧ b' t = some (.inr q) ∧ P r q)) : ∀ (n : Nat) (s : σ) (t : σ'), I s t → μ s < n → ∃ r q, zlp b n s = some r ∧ zlp b' n t = some q ∧ P r q := by
  intro n
  induction n with
  | zero => intro s t _ h2; exact absurd h2 (Nat.not_lt_zero _)
  | succ n ih =>
    intro s t hI hn
    rcases h s t hI with ⟨s2, t2, e, e', hI', hm⟩ | ⟨r, q, e, e', hP⟩
    · obtain ⟨r, q, e2, e3, hP⟩ := ih s2 t2 hI' (by omega)
      refine ⟨r, q, ?_, ?_, hP⟩
      · unfold zlp
        rw [e]
        exact e2
      · unfold zlp
        rw [e']
        exact e3
    · refine ⟨r, q, ?_, ?_, hP⟩
      · unfold zlp
        rw [e]
      · unfold zlp
        rw [e']
def qK0 (k : Int → Int) (j : Int) : Int := if k j = 0 then 1 else 0
theorem qK0_01 {k : Int → Int} {j : Int} : qK0 k j = 0 ∨ qK0 k j = 1 := by
  unfold qK0
  split <;> omega
theorem qK0_b {k : Int → Int} {j : Int} (h : 0 ≤ j) : 0 ≤ qCt (qK0 k) j ∧ qCt (qK0 k) j ≤ j := by
  have := qCt_b (a := qK0 k) j.toNat (fun v _ _ => qK0_01)
  rw [show ((j.toNat : Nat) : Int) = j by omega] at this
  exact ⟨this.1, this.2.1⟩
def qMh (hc pl B : Int) (br ba st bk sw : Int → Int) : Prop := ∀ h, 0 ≤ h → h < hc → (st h = sw h ∧ -B ≤ sw h ∧ sw h ≤ B) ∧ ((br h = 0 ∧ bk h = -1) ∨ (br h = 1 ∧ ba h = bk h ∧ 0 ≤ bk h ∧ bk h ≤ pl))
def qMc (sa br ba st : Int → Int) (hc la cc pl he lt rn pr : Int) (ki bk sw : Int → Int) (B : Int) : Prop := (he = hc ∧ 0 ≤ hc ∧ hc ≤ 4) ∧ (lt = la ∧ 0 ≤ la ∧ la ≤ 20) ∧ (pr = cc ∧ 0 ≤ cc ∧ cc ≤ 16641) ∧ (rn = pl ∧ 0 ≤ pl ∧ pl ≤ cc) ∧ (∀ j, 0 ≤ j → j ≤ cc → sa j = qCt (qK0 ki) j) ∧ (∀ j, 0 ≤ j → j < cc → 0 ≤ ki j ∧ ki j ≤ 4) ∧ qMh hc pl B br ba st bk sw
theorem pE_hasH {hc p : Int} (hh : 0 ≤ hc ∧ hc ≤ 4) (hp : zR p) : f_X1_has hc p = some (if 0 ≤ p ∧ p ≤ hc - 1 then 1 else 0) := by
  unfold f_X1_has
  by_cases c0 : p < 0
  · simp (disch := omega) only [zck_t, if_pos, if_neg]
  · by_cases c1 : hc ≤ p
    · simp (disch := omega) only [zck_t, if_pos, if_neg]
    · simp (disch := omega) only [zck_t, if_pos, if_neg]
def qSn (la cc pl : Int) (bk : Int → Int) (h : Int) : Int := if bk h = -1 then 0 else if bk h + la ≤ pl then 1 else if pl = cc then 1 else 0
theorem qSn_01 {la cc pl h : Int} {bk : Int → Int} : qSn la cc pl bk h = 0 ∨ qSn la cc pl bk h = 1 := by
  unfold qSn
  repeat' split
  all_goals omega
abbrev qMb (hc la cc pl : Int) : Prop := (0 ≤ hc ∧ hc ≤ 4) ∧ (0 ≤ la ∧ la ≤ 20) ∧ (0 ≤ cc ∧ cc ≤ 16641) ∧ (0 ≤ pl ∧ pl ≤ cc)
theorem pE_seenC {hc la cc pl B p : Int} {br ba st bk sw : Int → Int} (hb : qMb hc la cc pl) (h : qMh hc pl B br ba st bk sw) (hp : 0 ≤ p ∧ p < hc) : f_X1_isSeen br ba hc la cc pl p = some (qSn la cc pl bk p) := by
  obtain ⟨b1, b2, b3, b4⟩ := hb
  obtain ⟨-, h2⟩ := h p hp.1 hp.2
  unfold f_X1_isSeen qSn
  rw [pE_hasH b1 (by omega), if_pos (show 0 ≤ p ∧ p ≤ hc - 1 by omega)]
  rcases h2 with ⟨q1, q2⟩ | ⟨q1, q2, q3, q4⟩
  · simp (disch := omega) only [zck_t, if_pos, if_neg, zb1_e]
  · by_cases c1 : bk p + la ≤ pl
    · simp (disch := omega) only [zck_t, if_pos, if_neg, zb1_e]
      rfl
    · by_cases c2 : pl = cc
      · simp (disch := omega) only [zck_t, if_pos, if_neg, zb1_e]
        rfl
      · simp (disch := omega) only [zck_t, if_pos, if_neg, zb1_e]
theorem pE_stepC {hc cc pl : Int} {sa br st ki : Int → Int} (b1 : 0 ≤ hc ∧ hc ≤ 4) (b3 : 0 ≤ cc ∧ cc ≤ 16641) (b4 : 0 ≤ pl ∧ pl < cc) (hsa : ∀ j, 0 ≤ j → j ≤ cc → sa j = qCt (qK0 ki) j) (hbr : ∀ h, 0 ≤ h → h < hc → br h = 0 ∨ br h = 1) : ∃ st', f_X1_step sa br st hc pl = some (st', pl + 1) ∧ ∀ h, 0 ≤ h → h < hc → st' h = if br h = 0 then st h + qK0 ki pl else st h := by
  have hd : f_X1_stitchesBetween sa pl (pl + 1) = some (qK0 ki pl) := by
    unfold f_X1_stitchesBetween
    simp (disch := omega) only [zck_t, if_pos, if_neg]
    rw [hsa _ (by omega) (by omega), hsa _ (by omega) (by omega), qCt_s (by omega)]
    congr 1
    omega
  have H : ∃ q, zlp (fun z => f_X1_step_L17 sa br hc pl (qK0 ki pl) z.1 z.2) zFU (0, st) = some q ∧ ∀ h, 0 ≤ h → h < hc → q.2 h = if br h = 0 then st h + qK0 ki pl else st h := by
    refine zlp_for (fun s : Int × (Int → Int) => s.1) (lo := 0) (hi := hc) (fun j s => ∀ h, 0 ≤ h → h < hc → s.2 h = if h < j then (if br h = 0 then st h + qK0 ki pl else st h) else st h) _ b1.1 (by omega) ?_ ?_ (0, st) rfl (fun h h0 h1 => by rw [if_neg (by omega)])
    · intro s h0 h1 hR
      obtain ⟨x, a⟩ := s
      replace h0 : 0 ≤ x := h0
      replace h1 : x < hc := h1
      replace hR : ∀ h, 0 ≤ h → h < hc → a h = if h < x then (if br h = 0 then st h + qK0 ki pl else st h) else st h := hR
      show ∃ s', f_X1_step_L17 sa br hc pl (qK0 ki pl) x a = some (.inl s') ∧ _
      unfold f_X1_step_L17
      have hx := hR x h0 h1
      rw [if_neg (by omega)] at hx
      rcases hbr x h0 h1 with q | q
      · refine ⟨(x + 1, zup a x (a x + qK0 ki pl)), ?_, rfl, ?_⟩
        · simp (disch := omega) only [zck_t, if_pos, if_neg, zlt]
        · intro h g0 g1
          show zup a x (a x + qK0 ki pl) h = if h < x + 1 then _ else _
          by_cases c : h = x
          · subst c
            rw [zup_s, if_pos (by omega), if_pos q, hx]
          · rw [zup_n c, hR h g0 g1]
            by_cases c2 : h < x
            · rw [if_pos c2, if_pos (show h < x + 1 by omega)]
            · rw [if_neg c2, if_neg (show ¬ h < x + 1 by omega)]
      · refine ⟨(x + 1, a), ?_, rfl, ?_⟩
        · simp (disch := omega) only [zck_t, if_pos, if_neg]
        · intro h g0 g1
          show a h = if h < x + 1 then _ else _
          by_cases c : h = x
          · subst c
            rw [if_pos (by omega), if_neg (by omega), hx]
          · rw [hR h g0 g1]
            by_cases c2 : h < x
            · rw [if_pos c2, if_pos (show h < x + 1 by omega)]
            · rw [if_neg c2, if_neg (show ¬ h < x + 1 by omega)]
    · intro s h0 hR
      obtain ⟨x, a⟩ := s
      replace h0 : x = hc := h0
      refine ⟨(x, a), ?_, fun h g0 g1 => ?_⟩
      · show f_X1_step_L17 sa br hc pl (qK0 ki pl) x a = _
        unfold f_X1_step_L17
        simp (disch := omega) only [zck_t, if_pos]
      · have := hR h g0 g1
        rw [if_pos g1] at this
        exact this
  obtain ⟨⟨x, a⟩, e, hq⟩ := H
  refine ⟨a, ?_, hq⟩
  unfold f_X1_step
  rw [hd]
  simp only [zb1_e]
  rw [e]
  rfl
