/-! ===== the machine ===== -/
theorem zlp_two {σ ρ σ' ρ' : Type} {b : σ → Option (σ ⊕ ρ)} {b' : σ' → Option (σ' ⊕ ρ')} (I : σ → σ' → Prop) (P : ρ → ρ' → Prop) (μ : σ → Nat) (h : ∀ s t, I s t → (∃ s2 t2, b s = some (.inl s2) ∧ b' t = some (.inl t2) ∧ I s2 t2 ∧ μ s2 < μ s) ∨ (∃ r q, b s = some (.inr r) ∧ b' t = some (.inr q) ∧ P r q)) : ∀ (n : Nat) (s : σ) (t : σ'), I s t → μ s < n → ∃ r q, zlp b n s = some r ∧ zlp b' n t = some q ∧ P r q := by
  intro n
  induction n with
  | zero => intro s t _ h2; exact absurd h2 (Nat.not_lt_zero _)
  | succ n ih =>
    intro s t hI hn
    rcases h s t hI with ⟨s2, t2, e, e', hI', hm⟩ | ⟨r, q, e, e', hP⟩
    · obtain ⟨r, q, e2, e3, hP⟩ := ih s2 t2 hI' (by omega)
      refine ⟨r, q, ?_, ?_, hP⟩
      · unfold zlp
        rw [e]
        exact e2
      · unfold zlp
        rw [e']
        exact e3
    · refine ⟨r, q, ?_, ?_, hP⟩
      · unfold zlp
        rw [e]
      · unfold zlp
        rw [e']
def qK0 (k : Int → Int) (j : Int) : Int := if k j = 0 then 1 else 0
theorem qK0_01 {k : Int → Int} {j : Int} : qK0 k j = 0 ∨ qK0 k j = 1 := by
  unfold qK0
  split <;> omega
theorem qK0_b {k : Int → Int} {j : Int} (h : 0 ≤ j) : 0 ≤ qCt (qK0 k) j ∧ qCt (qK0 k) j ≤ j := by
  have := qCt_b (a := qK0 k) j.toNat (fun v _ _ => qK0_01)
  rw [show ((j.toNat : Nat) : Int) = j by omega] at this
  exact ⟨this.1, this.2.1⟩
def qMh (hc pl B : Int) (br ba st bk sw : Int → Int) : Prop := ∀ h, 0 ≤ h → h < hc → (st h = sw h ∧ -B ≤ sw h ∧ sw h ≤ B) ∧ ((br h = 0 ∧ bk h = -1) ∨ (br h = 1 ∧ ba h = bk h ∧ 0 ≤ bk h ∧ bk h ≤ pl))
def qMc (sa br ba st : Int → Int) (hc la cc pl he lt rn pr : Int) (ki bk sw : Int → Int) (B : Int) : Prop := (he = hc ∧ 0 ≤ hc ∧ hc ≤ 4) ∧ (lt = la ∧ 0 ≤ la ∧ la ≤ 20) ∧ (pr = cc ∧ 0 ≤ cc ∧ cc ≤ 16641) ∧ (rn = pl ∧ 0 ≤ pl ∧ pl ≤ cc) ∧ (∀ j, 0 ≤ j → j ≤ cc → sa j = qCt (qK0 ki) j) ∧ (∀ j, 0 ≤ j → j < cc → 0 ≤ ki j ∧ ki j ≤ 4) ∧ qMh hc pl B br ba st bk sw
theorem pE_hasH {hc p : Int} (hh : 0 ≤ hc ∧ hc ≤ 4) (hp : zR p) : f_X1_has hc p = some (if 0 ≤ p ∧ p ≤ hc - 1 then 1 else 0) := by
  unfold f_X1_has
  by_cases c0 : p < 0
  · simp (disch := omega) only [zck_t, if_pos, if_neg]
  · by_cases c1 : hc ≤ p
    · simp (disch := omega) only [zck_t, if_pos, if_neg]
    · simp (disch := omega) only [zck_t, if_pos, if_neg]
theorem pE_isHead {hc p : Int} (hh : 0 ≤ hc ∧ hc ≤ 4) (hp : zR p) : f_X7_isHead hc p = some (if 0 ≤ p ∧ p ≤ hc - 1 then 1 else 0) := by
  unfold f_X7_isHead
  rw [pE_in (by omega)]
  by_cases c : 0 ≤ p ∧ p ≤ hc - 1
  · simp (disch := omega) only [zck_t, if_pos, zb1_e]
    exact zck_t (Or.inr trivial)
  · simp (disch := omega) only [zck_t, if_neg, zb1_e]
    exact zck_t (Or.inl trivial)
def qSn (la cc pl : Int) (bk : Int → Int) (h : Int) : Int := if bk h = -1 then 0 else if bk h + la ≤ pl then 1 else if pl = cc then 1 else 0
theorem qSn_01 {la cc pl h : Int} {bk : Int → Int} : qSn la cc pl bk h = 0 ∨ qSn la cc pl bk h = 1 := by
  unfold qSn
  repeat' split
  all_goals omega
abbrev qMb (hc la cc pl : Int) : Prop := (0 ≤ hc ∧ hc ≤ 4) ∧ (0 ≤ la ∧ la ≤ 20) ∧ (0 ≤ cc ∧ cc ≤ 16641) ∧ (0 ≤ pl ∧ pl ≤ cc)
theorem pE_seenC {hc la cc pl B p : Int} {br ba st bk sw : Int → Int} (hb : qMb hc la cc pl) (h : qMh hc pl B br ba st bk sw) (hp : 0 ≤ p ∧ p < hc) : f_X1_isSeen br ba hc la cc pl p = some (qSn la cc pl bk p) := by
  obtain ⟨b1, b2, b3, b4⟩ := hb
  obtain ⟨-, h2⟩ := h p hp.1 hp.2
  unfold f_X1_isSeen qSn
  rw [pE_hasH b1 (by omega), if_pos (show 0 ≤ p ∧ p ≤ hc - 1 by omega)]
  rcases h2 with ⟨q1, q2⟩ | ⟨q1, q2, q3, q4⟩
  · simp (disch := omega) only [zck_t, if_pos, if_neg, zb1_e]
  · by_cases c1 : bk p + la ≤ pl
    · simp (disch := omega) only [zck_t, if_pos, if_neg, zb1_e]
      rfl
    · by_cases c2 : pl = cc
      · simp (disch := omega) only [zck_t, if_pos, if_neg, zb1_e]
        rfl
      · simp (disch := omega) only [zck_t, if_pos, if_neg, zb1_e]
theorem pE_seenM {hc la cc pl B p : Int} {br ba st bk sw : Int → Int} (hb : qMb hc la cc pl) (h : qMh hc pl B br ba st bk sw) (hp : 0 ≤ p ∧ p < hc) : f_X7_isSeen la pl cc bk p = some (qSn la cc pl bk p) := by
  obtain ⟨b1, b2, b3, b4⟩ := hb
  obtain ⟨-, h2⟩ := h p hp.1 hp.2
  unfold f_X7_isSeen qSn
  rcases h2 with ⟨q1, q2⟩ | ⟨q1, q2, q3, q4⟩
  · simp (disch := omega) only [zck_t, if_pos, if_neg]
  · by_cases c1 : bk p + la ≤ pl
    · simp (disch := omega) only [zck_t, if_pos, if_neg]
      rfl
    · by_cases c2 : pl = cc
      · simp (disch := omega) only [zck_t, if_pos, if_neg]
        rfl
      · simp (disch := omega) only [zck_t, if_pos, if_neg]
theorem pE_stands {hc la cc pl B : Int} {br ba st bk sw : Int → Int} (hb : qMb hc la cc pl) (h : qMh hc pl B br ba st bk sw) : ∃ r, f_X1_stands br ba hc la cc pl = some r ∧ f_X7_stands hc la pl cc bk = some r ∧ (r = 0 ∨ r = 1) := by
  have hb0 := hb
  obtain ⟨b1, b2, b3, b4⟩ := hb
  by_cases C : ∀ g, 0 ≤ g → g < hc → qSn la cc pl bk g = 0
  · refine ⟨0, ?_, ?_, Or.inl rfl⟩
    · have H : ∃ q, zlp (fun z => f_X1_stands_L2 br ba hc la cc pl z) zFU 0 = some q ∧ (∃ v, q = .inl v) := by
        refine zlp_for (fun s : Int => s) (lo := 0) (hi := hc) (fun _ _ => True) _ b1.1 (by omega) ?_ ?_ 0 rfl trivial
        · intro s h0 h1 _
          have e := pE_seenC hb0 h ⟨h0, h1⟩
          rw [C s h0 h1] at e
          refine ⟨s + 1, ?_, rfl, trivial⟩
          show f_X1_stands_L2 br ba hc la cc pl s = _
          unfold f_X1_stands_L2
          simp (disch := omega) only [zck_t, if_pos, if_neg, if_true, zb1_e, e]
        · intro s h0 _
          refine ⟨.inl s, ?_, s, rfl⟩
          show f_X1_stands_L2 br ba hc la cc pl s = _
          unfold f_X1_stands_L2
          simp (disch := omega) only [zck_t, if_pos]
      obtain ⟨q, e, v, rfl⟩ := H
      unfold f_X1_stands
      rw [e]
      rfl
    · have H : ∃ q, zlp (fun z => f_X7_stands_L4 hc la pl cc bk z.1 z.2) zFU (0, 0) = some q ∧ q.1 = 0 := by
        refine zlp_for (fun s : Int × Int => s.2) (lo := 0) (hi := hc) (fun _ s => s.1 = 0) _ b1.1 (by omega) ?_ ?_ (0, 0) rfl rfl
        · intro s h0 h1 hR
          obtain ⟨x, j⟩ := s
          replace h0 : 0 ≤ j := h0
          replace h1 : j < hc := h1
          replace hR : x = 0 := hR
          subst hR
          have e := pE_seenM hb0 h ⟨h0, h1⟩
          rw [C j h0 h1] at e
          refine ⟨(0, j + 1), ?_, rfl, rfl⟩
          show f_X7_stands_L4 hc la pl cc bk 0 j = _
          unfold f_X7_stands_L4
          simp (disch := omega) only [zck_t, if_pos, if_neg, if_true, zb1_e, e]
        · intro s h0 hR
          obtain ⟨x, j⟩ := s
          replace h0 : j = hc := h0
          refine ⟨(x, j), ?_, hR⟩
          show f_X7_stands_L4 hc la pl cc bk x j = _
          unfold f_X7_stands_L4
          simp (disch := omega) only [zck_t, if_pos]
      obtain ⟨⟨x, j⟩, e, hq⟩ := H
      replace hq : x = 0 := hq
      subst hq
      unfold f_X7_stands
      rw [e]
      exact zck_t (Or.inl rfl)
  · have hg : ∃ g, (0 ≤ g ∧ g < hc) ∧ qSn la cc pl bk g = 1 := by
      refine Classical.byContradiction fun hn => C fun g g0 g1 => ?_
      rcases qSn_01 (la := la) (cc := cc) (pl := pl) (bk := bk) (h := g) with q | q
      · exact q
      · exact absurd ⟨g, ⟨g0, g1⟩, q⟩ hn
    obtain ⟨g, ⟨g0, g1⟩, hg⟩ := hg
    refine ⟨1, ?_, ?_, Or.inr rfl⟩
    · have H : ∃ q, zlp (fun z => f_X1_stands_L2 br ba hc la cc pl z) zFU 0 = some q ∧ q = .inr 1 := by
        refine zlp_for2 (fun s : Int => s) (lo := 0) (hi := hc) (fun j _ => j ≤ g) _ b1.1 (by omega) ?_ ?_ 0 rfl g0
        · intro s h0 h1 hR
          have e := pE_seenC hb0 h ⟨h0, h1⟩
          rcases qSn_01 (la := la) (cc := cc) (pl := pl) (bk := bk) (h := s) with q | q
          · left
            rw [q] at e
            refine ⟨s + 1, ?_, rfl, ?_⟩
            · show f_X1_stands_L2 br ba hc la cc pl s = _
              unfold f_X1_stands_L2
              simp (disch := omega) only [zck_t, if_pos, if_neg, if_true, zb1_e, e]
            · show s + 1 ≤ g
              replace hR : s ≤ g := hR
              rcases Int.lt_or_le s g with z | z
              · omega
              · have : s = g := by omega
                rw [this] at q
                omega
          · right
            rw [q] at e
            refine ⟨.inr 1, ?_, rfl⟩
            show f_X1_stands_L2 br ba hc la cc pl s = _
            unfold f_X1_stands_L2
            simp (disch := omega) only [zck_t, if_pos, if_neg, zb1_e, e]
        · intro s h0 hR
          replace hR : hc ≤ g := hR
          omega
      obtain ⟨q, e, rfl⟩ := H
      unfold f_X1_stands
      rw [e]
      rfl
    · have H : ∃ q, zlp (fun z => f_X7_stands_L4 hc la pl cc bk z.1 z.2) zFU (0, 0) = some q ∧ q.1 = 1 := by
        refine zlp_for (fun s : Int × Int => s.2) (lo := 0) (hi := hc) (fun j s => (s.1 = 0 ∨ s.1 = 1) ∧ (g < j → s.1 = 1)) _ b1.1 (by omega) ?_ ?_ (0, 0) rfl ⟨Or.inl rfl, fun z => by omega⟩
        · intro s h0 h1 hR
          obtain ⟨x, j⟩ := s
          replace h0 : 0 ≤ j := h0
          replace h1 : j < hc := h1
          replace hR : (x = 0 ∨ x = 1) ∧ (g < j → x = 1) := hR
          show ∃ s', f_X7_stands_L4 hc la pl cc bk x j = some (.inl s') ∧ _
          have e := pE_seenM hb0 h ⟨h0, h1⟩
          unfold f_X7_stands_L4
          rcases hR.1 with q | q
          · rcases qSn_01 (la := la) (cc := cc) (pl := pl) (bk := bk) (h := j) with q2 | q2
            · rw [q2] at e
              refine ⟨(0, j + 1), ?_, rfl, Or.inl rfl, fun z => ?_⟩
              · simp (disch := omega) only [zck_t, if_pos, if_neg, if_true, zb1_e, e]
              · exfalso
                rcases Int.lt_or_le g j with z2 | z2
                · have := hR.2 z2
                  omega
                · have : j = g := by omega
                  rw [this] at q2
                  omega
            · rw [q2] at e
              refine ⟨(1, j + 1), ?_, rfl, Or.inr rfl, fun z => rfl⟩
              simp (disch := omega) only [zck_t, if_pos, if_neg, zb1_e, e]
              rfl
          · refine ⟨(1, j + 1), ?_, rfl, Or.inr rfl, fun z => rfl⟩
            simp (disch := omega) only [zck_t, if_neg]
            rfl
        · intro s h0 hR
          obtain ⟨x, j⟩ := s
          replace h0 : j = hc := h0
          refine ⟨(x, j), ?_, hR.2 g1⟩
          show f_X7_stands_L4 hc la pl cc bk x j = _
          unfold f_X7_stands_L4
          simp (disch := omega) only [zck_t, if_pos]
      obtain ⟨⟨x, j⟩, e, hq⟩ := H
      replace hq : x = 1 := hq
      subst hq
      unfold f_X7_stands
      rw [e]
      exact zck_t (Or.inr rfl)
theorem pE_stepC {hc cc pl : Int} {sa br st ki : Int → Int} (b1 : 0 ≤ hc ∧ hc ≤ 4) (b3 : 0 ≤ cc ∧ cc ≤ 16641) (b4 : 0 ≤ pl ∧ pl < cc) (hsa : ∀ j, 0 ≤ j → j ≤ cc → sa j = qCt (qK0 ki) j) (hbr : ∀ h, 0 ≤ h → h < hc → br h = 0 ∨ br h = 1) : ∃ st', f_X1_step sa br st hc pl = some (st', pl + 1) ∧ ∀ h, 0 ≤ h → h < hc → st' h = if br h = 0 then st h + qK0 ki pl else st h := by
  have hd : f_X1_stitchesBetween sa pl (pl + 1) = some (qK0 ki pl) := by
    unfold f_X1_stitchesBetween
    simp (disch := omega) only [zck_t, if_pos, if_neg]
    rw [hsa _ (by omega) (by omega), hsa _ (by omega) (by omega), qCt_s (by omega)]
    congr 1
    omega
  have H : ∃ q, zlp (fun z => f_X1_step_L17 sa br hc pl (qK0 ki pl) z.1 z.2) zFU (0, st) = some q ∧ ∀ h, 0 ≤ h → h < hc → q.2 h = if br h = 0 then st h + qK0 ki pl else st h := by
    refine zlp_for (fun s : Int × (Int → Int) => s.1) (lo := 0) (hi := hc) (fun j s => ∀ h, 0 ≤ h → h < hc → s.2 h = if h < j then (if br h = 0 then st h + qK0 ki pl else st h) else st h) _ b1.1 (by omega) ?_ ?_ (0, st) rfl (fun h h0 h1 => by rw [if_neg (by omega)])
    · intro s h0 h1 hR
      obtain ⟨x, a⟩ := s
      replace h0 : 0 ≤ x := h0
      replace h1 : x < hc := h1
      replace hR : ∀ h, 0 ≤ h → h < hc → a h = if h < x then (if br h = 0 then st h + qK0 ki pl else st h) else st h := hR
      show ∃ s', f_X1_step_L17 sa br hc pl (qK0 ki pl) x a = some (.inl s') ∧ _
      unfold f_X1_step_L17
      have hx := hR x h0 h1
      rw [if_neg (by omega)] at hx
      rcases hbr x h0 h1 with q | q
      · refine ⟨(x + 1, zup a x (a x + qK0 ki pl)), ?_, rfl, ?_⟩
        · simp (disch := omega) only [zck_t, if_pos, if_neg, zlt]
        · intro h g0 g1
          show zup a x (a x + qK0 ki pl) h = if h < x + 1 then _ else _
          by_cases c : h = x
          · subst c
            rw [zup_s, if_pos (by omega), if_pos q, hx]
          · rw [zup_n c, hR h g0 g1]
            by_cases c2 : h < x
            · rw [if_pos c2, if_pos (show h < x + 1 by omega)]
            · rw [if_neg c2, if_neg (show ¬ h < x + 1 by omega)]
      · refine ⟨(x + 1, a), ?_, rfl, ?_⟩
        · simp (disch := omega) only [zck_t, if_pos, if_neg]
        · intro h g0 g1
          show a h = if h < x + 1 then _ else _
          by_cases c : h = x
          · subst c
            rw [if_pos (by omega), if_neg (by omega), hx]
          · rw [hR h g0 g1]
            by_cases c2 : h < x
            · rw [if_pos c2, if_pos (show h < x + 1 by omega)]
            · rw [if_neg c2, if_neg (show ¬ h < x + 1 by omega)]
    · intro s h0 hR
      obtain ⟨x, a⟩ := s
      replace h0 : x = hc := h0
      refine ⟨(x, a), ?_, fun h g0 g1 => ?_⟩
      · show f_X1_step_L17 sa br hc pl (qK0 ki pl) x a = _
        unfold f_X1_step_L17
        simp (disch := omega) only [zck_t, if_pos]
      · have := hR h g0 g1
        rw [if_pos g1] at this
        exact this
  obtain ⟨⟨x, a⟩, e, hq⟩ := H
  refine ⟨a, ?_, hq⟩
  unfold f_X1_step
  rw [hd]
  simp only [zb1_e]
  rw [e]
  rfl
theorem pE_stepM {hc la cc pl thr x1 x2 : Int} {ki bk sw : Int → Int} (b1 : 0 ≤ hc ∧ hc ≤ 4) (b3 : 0 ≤ cc ∧ cc ≤ 16641) (b4 : 0 ≤ pl ∧ pl < cc) (hki : 0 ≤ ki pl ∧ ki pl ≤ 4) (hbk : ∀ h, 0 ≤ h → h < hc → -1 ≤ bk h ∧ bk h ≤ 16641) : ∃ w sw', zlp (fun z => f_X7_run_L57 hc la pl cc ki bk thr x1 x2 z.1 z.2) zFU (0, sw) = some (w, sw') ∧ ∀ h, 0 ≤ h → h < hc → sw' h = if bk h = -1 then sw h + qK0 ki pl else sw h := by
  have H : ∃ q, zlp (fun z => f_X7_run_L57 hc la pl cc ki bk thr x1 x2 z.1 z.2) zFU (0, sw) = some q ∧ ∀ h, 0 ≤ h → h < hc → q.2 h = if bk h = -1 then sw h + qK0 ki pl else sw h := by
    refine zlp_for (fun s : Int × (Int → Int) => s.1) (lo := 0) (hi := hc) (fun j s => ∀ h, 0 ≤ h → h < hc → s.2 h = if h < j then (if bk h = -1 then sw h + qK0 ki pl else sw h) else sw h) _ b1.1 (by omega) ?_ ?_ (0, sw) rfl (fun h h0 h1 => by rw [if_neg (by omega)])
    · intro s h0 h1 hR
      obtain ⟨x, a⟩ := s
      replace h0 : 0 ≤ x := h0
      replace h1 : x < hc := h1
      replace hR : ∀ h, 0 ≤ h → h < hc → a h = if h < x then (if bk h = -1 then sw h + qK0 ki pl else sw h) else sw h := hR
      have hx := hR x h0 h1
      rw [if_neg (by omega)] at hx
      have hbx := hbk x h0 h1
      have hex : ∃ d, f_X7_run_L57 hc la pl cc ki bk thr x1 x2 x a = some (.inl (x + 1, zup a x (a x + d))) ∧ d = (if bk x = -1 then qK0 ki pl else 0) := by
        unfold f_X7_run_L57 qK0
        by_cases c1 : ki pl = 0
        · by_cases c2 : bk x = -1
          · refine ⟨1, ?_, by rw [if_pos c2, if_pos c1]⟩
            simp (disch := omega) only [zck_t, if_pos, if_neg]
            unfold f_X7_run_L57_99
            simp (disch := omega) only [zck_t, zlt]
          · refine ⟨0, ?_, by rw [if_neg c2]⟩
            simp (disch := omega) only [zck_t, if_pos, if_neg]
            unfold f_X7_run_L57_98 f_X7_run_L57_99
            simp (disch := omega) only [zck_t, zlt]
        · refine ⟨0, ?_, by rw [if_neg c1]; split <;> rfl⟩
          simp (disch := omega) only [zck_t, if_neg]
          unfold f_X7_run_L57_98 f_X7_run_L57_99
          simp (disch := omega) only [zck_t, zlt]
      obtain ⟨d, e, hd⟩ := hex
      refine ⟨(x + 1, zup a x (a x + d)), e, rfl, ?_⟩
      intro h g0 g1
      show zup a x (a x + d) h = if h < x + 1 then _ else _
      by_cases c : h = x
      · subst c
        rw [zup_s, if_pos (by omega), hx, hd]
        by_cases c3 : bk h = -1
        · rw [if_pos c3, if_pos c3]
        · rw [if_neg c3, if_neg c3]
          omega
      · rw [zup_n c, hR h g0 g1]
        by_cases c2 : h < x
        · rw [if_pos c2, if_pos (show h < x + 1 by omega)]
        · rw [if_neg c2, if_neg (show ¬ h < x + 1 by omega)]
    · intro s h0 hR
      obtain ⟨x, a⟩ := s
      replace h0 : x = hc := h0
      refine ⟨(x, a), ?_, fun h g0 g1 => ?_⟩
      · show f_X7_run_L57 hc la pl cc ki bk thr x1 x2 x a = _
        unfold f_X7_run_L57
        simp (disch := omega) only [zck_t, if_pos]
      · have := hR h g0 g1
        rw [if_pos g1] at this
        exact this
  obtain ⟨⟨x, a⟩, e, hq⟩ := H
  exact ⟨x, a, e, hq⟩
theorem pL_run {sa br ba st ki bk sw : Int → Int} {hc la cc pl he lt rn pr B thr out w1 : Int} (h : qMc sa br ba st hc la cc pl he lt rn pr ki bk sw B) (hw : zR w1) : ∃ st' pl' rn' sw' thr' out', f_law_run sa br ba st hc la cc pl he lt rn pr ki bk sw thr out w1 = some (st', pl', rn', sw', thr', out') ∧ qMc sa br ba st' hc la cc pl' he lt rn' pr ki bk sw' (B + 1000) := by
  obtain ⟨⟨a1, b1⟩, ⟨a2, b2⟩, ⟨a3, b3⟩, ⟨a4, b4⟩, h5, h6, h7⟩ := h
  subst a1
  subst a2
  subst a3
  subst a4
  have h7' : qMh he rn (B + 1000) br ba st bk sw := fun g g0 g1 => by
    obtain ⟨⟨t1, t2, t3⟩, t4⟩ := h7 g g0 g1
    exact ⟨⟨t1, by omega, by omega⟩, t4⟩
  unfold f_law_run f_L_run f_X6_run f_X7_run f_X7_thrown
  rw [pE_in (by omega), pE_within (by omega)]
  by_cases c1 : 1 ≤ w1 ∧ w1 ≤ 1000
  · by_cases c2 : he = 0
    · refine ⟨st, rn, rn, sw, 2, out, ?_, ⟨rfl, b1⟩, ⟨rfl, b2⟩, ⟨rfl, b3⟩, ⟨rfl, b4⟩, h5, h6, h7'⟩
      simp (disch := omega) only [zck_t, if_pos, if_neg, if_true, if_false, not_true_eq_false, not_false_eq_true, zb1_e, zb2_e, zb4_e, pE_asks1, pE_fails]
    · have H : ∃ r q, zlp (fun z => f_X1_advance_L2 sa br ba he lt pr w1 z.1 z.2.1 z.2.2) zFU (0, st, rn) = some r ∧ zlp (fun z => f_X7_run_L32 he lt pr ki bk 0 w1 z.1 z.2.1 z.2.2) zFU (0, rn, sw) = some q ∧ (r.1 = q.1 ∧ (0 ≤ q.1 ∧ q.1 ≤ w1) ∧ (r.2.2 = q.2.1 ∧ 0 ≤ q.2.1 ∧ q.2.1 ≤ pr) ∧ qMh he q.2.1 (B + q.1) br ba r.2.1 bk q.2.2) := by
        refine zlp_two (fun (s : Int × (Int → Int) × Int) (t : Int × Int × (Int → Int)) => s.1 = t.1 ∧ (0 ≤ t.1 ∧ t.1 ≤ w1) ∧ (s.2.2 = t.2.1 ∧ 0 ≤ t.2.1 ∧ t.2.1 ≤ pr) ∧ qMh he t.2.1 (B + t.1) br ba s.2.1 bk t.2.2) _ (fun s => (w1 - s.1).toNat) ?_ zFU (0, st, rn) (0, rn, sw) ⟨rfl, ⟨Int.le_refl _, by show (0 : Int) ≤ w1; omega⟩, ⟨rfl, b4⟩, ?_⟩ ?_
        · intro s t hI
          obtain ⟨x, a, p⟩ := s
          obtain ⟨y, r, c⟩ := t
          obtain ⟨i1, i2, ⟨i3, i4⟩, i5⟩ := hI
          replace i1 : x = y := i1
          replace i2 : 0 ≤ y ∧ y ≤ w1 := i2
          replace i3 : p = r := i3
          replace i4 : 0 ≤ r ∧ r ≤ pr := i4
          replace i5 : qMh he r (B + y) br ba a bk c := i5
          subst i1
          subst i3
          show (∃ s2 t2, f_X1_advance_L2 sa br ba he lt pr w1 x a p = some (.inl s2) ∧ f_X7_run_L32 he lt pr ki bk 0 w1 x p c = some (.inl t2) ∧ _ ∧ (w1 - s2.1).toNat < (w1 - x).toNat) ∨ ∃ r q, f_X1_advance_L2 sa br ba he lt pr w1 x a p = some (.inr r) ∧ f_X7_run_L32 he lt pr ki bk 0 w1 x p c = some (.inr q) ∧ _
          unfold f_X1_advance_L2 f_X7_run_L32
          by_cases d1 : w1 ≤ x
          · right
            refine ⟨(x, a, p), (x, p, c), ?_, ?_, rfl, i2, ⟨rfl, i4⟩, i5⟩
            · simp (disch := omega) only [zck_t, if_pos]
            · simp (disch := omega) only [zck_t, if_pos]
          · by_cases d2 : pr ≤ p
            · right
              refine ⟨(x, a, p), (x, p, c), ?_, ?_, rfl, i2, ⟨rfl, i4⟩, i5⟩
              · simp (disch := omega) only [zck_t, if_pos, if_neg]
              · simp (disch := omega) only [zck_t, if_pos, if_neg]
            · obtain ⟨r, e1, e2, hr⟩ := pE_stands (la := lt) (cc := pr) ⟨b1, b2, b3, i4⟩ i5
              rcases hr with q | q
              · left
                subst q
                obtain ⟨st', e3, g3⟩ := pE_stepC (sa := sa) (br := br) (st := a) (ki := ki) b1 b3 (show 0 ≤ p ∧ p < pr by omega) h5 (fun g g0 g1 => by rcases (i5 g g0 g1).2 with q | q; exact Or.inl q.1; exact Or.inr q.1)
                obtain ⟨w, sw', e4, g4⟩ := pE_stepM (la := lt) (thr := 0) (x1 := w1) (x2 := x) (sw := c) (ki := ki) (bk := bk) b1 b3 (show 0 ≤ p ∧ p < pr by omega) (h6 p i4.1 (by omega)) (fun g g0 g1 => by rcases (i5 g g0 g1).2 with q | q; omega; omega)
                refine ⟨(x + 1, st', p + 1), (x + 1, p + 1, sw'), ?_, ?_, ⟨rfl, ⟨by show 0 ≤ x + 1; omega, by show x + 1 ≤ w1; omega⟩, ⟨rfl, by show 0 ≤ p + 1; omega, by show p + 1 ≤ pr; omega⟩, ?_⟩, ?_⟩
                · simp (disch := omega) only [zck_t, if_neg, if_true, zb1_e, zb2_e, e1, e3]
                · simp (disch := omega) only [zck_t, if_neg, if_true, zb1_e, e2]
                  rw [e4]
                  simp only [zb2_e, zlt]
                · intro g g0 g1
                  show (st' g = sw' g ∧ -(B + (x + 1)) ≤ sw' g ∧ sw' g ≤ B + (x + 1)) ∧ ((br g = 0 ∧ bk g = -1) ∨ (br g = 1 ∧ ba g = bk g ∧ 0 ≤ bk g ∧ bk g ≤ p + 1))
                  obtain ⟨⟨t1, t2, t3⟩, t4⟩ := i5 g g0 g1
                  have k1 := qK0_01 (k := ki) (j := p)
                  rw [g3 g g0 g1, g4 g g0 g1]
                  rcases t4 with ⟨u1, u2⟩ | ⟨u1, u2, u3, u4⟩
                  · rw [if_pos u1, if_pos u2]
                    exact ⟨⟨by omega, by omega, by omega⟩, Or.inl ⟨u1, u2⟩⟩
                  · rw [if_neg (by omega), if_neg (by omega)]
                    exact ⟨⟨by omega, by omega, by omega⟩, Or.inr ⟨u1, u2, by omega, by omega⟩⟩
                · show (w1 - (x + 1)).toNat < (w1 - x).toNat
                  omega
              · right
                subst q
                refine ⟨(x, a, p), (x, p, c), ?_, ?_, rfl, i2, ⟨rfl, i4⟩, i5⟩
                · simp (disch := omega) only [zck_t, if_neg, zb1_e, e1]
                · simp (disch := omega) only [zck_t, if_neg, zb1_e, e2]
        · show qMh he rn (B + 0) br ba st bk sw
          rw [Int.add_zero]
          exact h7
        · have : (1000000000 : Nat) ≤ zFU := zFU_ge rfl
          show (w1 - 0).toNat < zFU
          omega
      obtain ⟨⟨x, a, p⟩, ⟨y, r, c⟩, e1, e2, i1, i2, ⟨i3, i4⟩, i5⟩ := H
      replace i1 : x = y := i1
      replace i2 : 0 ≤ y ∧ y ≤ w1 := i2
      replace i3 : p = r := i3
      replace i4 : 0 ≤ r ∧ r ≤ pr := i4
      replace i5 : qMh he r (B + y) br ba a bk c := i5
      subst i1
      subst i3
      have e3 : f_X1_advance sa br ba st he lt pr rn w1 = some (x, a, p) := by
        unfold f_X1_advance
        rw [e1]
        rfl
      refine ⟨a, p, p, c, 0, x, ?_, ⟨rfl, b1⟩, ⟨rfl, b2⟩, ⟨rfl, b3⟩, ⟨rfl, i4⟩, h5, h6, fun g g0 g1 => ?_⟩
      · rw [e3]
        simp (disch := omega) only [zck_t, if_pos, if_neg, if_true, if_false, not_true_eq_false, not_false_eq_true, zb1_e, zb2_e, zb3_e, zb4_e, pE_asks1]
        rw [e2]
        simp (disch := omega) only [zck_t, if_pos, if_neg, if_true, if_false, not_true_eq_false, not_false_eq_true, zb1_e, zb2_e, zb3_e, zb4_e]
      · obtain ⟨⟨t1, t2, t3⟩, t4⟩ := i5 g g0 g1
        exact ⟨⟨t1, by omega, by omega⟩, t4⟩
  · refine ⟨st, rn, rn, sw, 1, out, ?_, ⟨rfl, b1⟩, ⟨rfl, b2⟩, ⟨rfl, b3⟩, ⟨rfl, b4⟩, h5, h6, h7'⟩
    simp (disch := omega) only [zck_t, if_pos, if_neg, if_true, if_false, not_true_eq_false, not_false_eq_true, zb1_e, zb2_e, zb4_e, pE_asks0]
theorem pL_sewn {sa br ba st ki bk sw : Int → Int} {hc la cc pl he lt rn pr B thr out w1 : Int} (h : qMc sa br ba st hc la cc pl he lt rn pr ki bk sw B) (hw : zR w1) (hB : B ≤ 1000000000) : ∃ thr' out', f_law_sewn st hc he sw thr out w1 = some (thr', out') := by
  obtain ⟨⟨a1, b1⟩, ⟨a2, b2⟩, ⟨a3, b3⟩, ⟨a4, b4⟩, h5, h6, h7⟩ := h
  subst a1
  unfold f_law_sewn f_L_sewn f_X6_sewn f_X7_sewn f_X7_thrown
  rw [pE_hasH b1 hw, pE_isHead b1 hw]
  by_cases c : 0 ≤ w1 ∧ w1 ≤ he - 1
  · obtain ⟨⟨t1, t2, t3⟩, t4⟩ := h7 w1 c.1 (by omega)
    refine ⟨0, st w1, ?_⟩
    simp (disch := omega) only [zck_t, if_pos, if_neg, if_true, if_false, not_true_eq_false, not_false_eq_true, zb1_e, zb2_e, pE_asks1]
  · refine ⟨1, out, ?_⟩
    simp (disch := omega) only [zck_t, if_pos, if_neg, if_true, if_false, not_true_eq_false, not_false_eq_true, zb1_e, zb2_e, pE_asks0]
theorem pL_breaks {sa br ba st ki bk sw : Int → Int} {hc la cc pl he lt rn pr B thr w1 : Int} (h : qMc sa br ba st hc la cc pl he lt rn pr ki bk sw B) (hw : zR w1) : ∃ br' ba' bk' thr', f_law_breaks br ba hc pl he rn bk thr w1 = some (br', ba', bk', thr') ∧ qMc sa br' ba' st hc la cc pl he lt rn pr ki bk' sw B := by
  have h0 := h
  obtain ⟨⟨a1, b1⟩, ⟨a2, b2⟩, ⟨a3, b3⟩, ⟨a4, b4⟩, h5, h6, h7⟩ := h
  subst a1
  subst a4
  unfold f_law_breaks f_L_breaks f_X6_breaks f_X7_breaks f_X7_thrown f_X1_tear
  rw [pE_hasH b1 hw, pE_isHead b1 hw]
  by_cases c : 0 ≤ w1 ∧ w1 ≤ he - 1
  · obtain ⟨-, t4⟩ := h7 w1 c.1 (by omega)
    rcases t4 with ⟨u1, u2⟩ | ⟨u1, u2, u3, u4⟩
    · refine ⟨zup br w1 1, zup ba w1 rn, zup bk w1 rn, 0, ?_, ⟨rfl, b1⟩, ⟨a2, b2⟩, ⟨a3, b3⟩, ⟨rfl, b4⟩, h5, h6, fun g g0 g1 => ?_⟩
      · simp (disch := omega) only [zck_t, if_pos, if_neg, if_true, if_false, not_true_eq_false, not_false_eq_true, zb1_e, zb2_e, zb3_e, pE_asks1, zlt]
      · obtain ⟨t1, t4⟩ := h7 g g0 g1
        refine ⟨t1, ?_⟩
        by_cases c2 : g = w1
        · subst c2
          rw [zup_s, zup_s, zup_s]
          exact Or.inr ⟨rfl, rfl, b4.1, Int.le_refl _⟩
        · rw [zup_n c2, zup_n c2, zup_n c2]
          exact t4
    · refine ⟨br, ba, bk, 2, ?_, h0⟩
      simp (disch := omega) only [zck_t, if_pos, if_neg, if_true, if_false, not_true_eq_false, not_false_eq_true, zb1_e, zb2_e, zb3_e, pE_asks1]
  · refine ⟨br, ba, bk, 1, ?_, h0⟩
    simp (disch := omega) only [zck_t, if_pos, if_neg, if_true, if_false, not_true_eq_false, not_false_eq_true, zb1_e, zb2_e, zb3_e, pE_asks0]
theorem pL_mend {sa br ba st ki bk sw : Int → Int} {hc la cc pl he lt rn pr B thr out w1 : Int} (h : qMc sa br ba st hc la cc pl he lt rn pr ki bk sw B) (hw : zR w1) : ∃ br' st' bk' sw' thr' out', f_law_mend sa br ba st hc la cc pl he lt rn pr ki bk sw thr out w1 = some (br', st', bk', sw', thr', out') ∧ qMc sa br' ba st' hc la cc pl he lt rn pr ki bk' sw' (B + 16641) := by
  obtain ⟨⟨a1, b1⟩, ⟨a2, b2⟩, ⟨a3, b3⟩, ⟨a4, b4⟩, h5, h6, h7⟩ := h
  subst a1
  subst a2
  subst a3
  subst a4
  have h7' : qMh he rn (B + 16641) br ba st bk sw := fun g g0 g1 => by
    obtain ⟨⟨t1, t2, t3⟩, t4⟩ := h7 g g0 g1
    exact ⟨⟨t1, by omega, by omega⟩, t4⟩
  have hK : qMc sa br ba st he lt pr rn he lt rn pr ki bk sw (B + 16641) := ⟨⟨rfl, b1⟩, ⟨rfl, b2⟩, ⟨rfl, b3⟩, ⟨rfl, b4⟩, h5, h6, h7'⟩
  unfold f_law_mend f_L_mend f_X6_mend f_X7_mend f_X7_thrown f_X1_repair
  rw [pE_hasH b1 hw, pE_isHead b1 hw]
  by_cases c : 0 ≤ w1 ∧ w1 ≤ he - 1
  · have e1 := pE_seenC (p := w1) ⟨b1, b2, b3, b4⟩ h7 (by omega)
    have e2 := pE_seenM (p := w1) ⟨b1, b2, b3, b4⟩ h7 (by omega)
    rw [e1, e2]
    rcases qSn_01 (la := lt) (cc := pr) (pl := rn) (bk := bk) (h := w1) with q | q
    · rw [q]
      refine ⟨br, st, bk, sw, 2, out, ?_, hK⟩
      simp (disch := omega) only [zck_t, if_pos, if_neg, if_true, if_false, not_true_eq_false, not_false_eq_true, zb1_e, zb2_e, zb4_e, pE_asks1, pE_fails]
    · rw [q]
      have hbk : ba w1 = bk w1 ∧ 0 ≤ bk w1 ∧ bk w1 ≤ rn := by
        obtain ⟨-, t4⟩ := h7 w1 c.1 (by omega)
        rcases t4 with ⟨u1, u2⟩ | ⟨u1, u2, u3, u4⟩
        · unfold qSn at q
          rw [if_pos u2] at q
          omega
        · exact ⟨u2, u3, u4⟩
      obtain ⟨k1, k2, k3⟩ := hbk
      have hlo : 0 ≤ max 0 (bk w1 - 3) ∧ max 0 (bk w1 - 3) ≤ rn := by omega
      have hgr : f_X7_greater 0 (bk w1 - 3) = some (max 0 (bk w1 - 3)) := pE_greater (by omega) (by omega)
      rw [hgr, k1]
      generalize max 0 (bk w1 - 3) = lo at *
      have hbt : f_X1_stitchesBetween sa lo rn = some (qCt (qK0 ki) rn - qCt (qK0 ki) lo) := by
        unfold f_X1_stitchesBetween
        simp (disch := omega) only [zck_t, if_pos, if_neg]
        rw [h5 _ (by omega) (by omega), h5 _ (by omega) (by omega)]
      have H : ∃ r, zlp (fun z => f_X7_mend_L43 he lt rn pr ki bk sw 0 w1 z.1 z.2) zFU (0, lo) = some r ∧ r.1 = qCt (qK0 ki) rn - qCt (qK0 ki) lo := by
        refine zlp_for (fun s : Int × Int => s.2) (lo := lo) (hi := rn) (fun j s => s.1 = qCt (qK0 ki) j - qCt (qK0 ki) lo) _ hlo.2 (by omega) ?_ ?_ (0, lo) rfl (by show (0 : Int) = qCt (qK0 ki) lo - qCt (qK0 ki) lo; omega)
        · intro s h0 h1 hR
          obtain ⟨x, j⟩ := s
          replace h0 : lo ≤ j := h0
          replace h1 : j < rn := h1
          replace hR : x = qCt (qK0 ki) j - qCt (qK0 ki) lo := hR
          have hkj := h6 j (by omega) (by omega)
          have hs := qCt_s (a := qK0 ki) (n := j) (by omega)
          show ∃ s', f_X7_mend_L43 he lt rn pr ki bk sw 0 w1 x j = some (.inl s') ∧ _
          unfold f_X7_mend_L43
          by_cases d : ki j = 0
          · have hkk : qK0 ki j = 1 := by unfold qK0; rw [if_pos d]
            refine ⟨(x + 1, j + 1), ?_, rfl, ?_⟩
            · simp (disch := omega) only [zck_t, if_pos, if_neg, zlt]
            · show x + 1 = qCt (qK0 ki) (j + 1) - qCt (qK0 ki) lo
              omega
          · have hkk : qK0 ki j = 0 := by unfold qK0; rw [if_neg d]
            refine ⟨(x + 0, j + 1), ?_, rfl, ?_⟩
            · simp (disch := omega) only [zck_t, if_neg, zlt]
            · show x + 0 = qCt (qK0 ki) (j + 1) - qCt (qK0 ki) lo
              omega
        · intro s h0 hR
          obtain ⟨x, j⟩ := s
          replace h0 : j = rn := h0
          refine ⟨(x, j), ?_, hR⟩
          show f_X7_mend_L43 he lt rn pr ki bk sw 0 w1 x j = _
          unfold f_X7_mend_L43
          simp (disch := omega) only [zck_t, if_pos]
      obtain ⟨⟨x, j⟩, e3, hx⟩ := H
      replace hx : x = qCt (qK0 ki) rn - qCt (qK0 ki) lo := hx
      have m1 := qK0_b (k := ki) (j := rn) b4.1
      have m2 := qK0_b (k := ki) (j := lo) hlo.1
      rw [hbt, ← hx]
      refine ⟨zup br w1 0, zup st w1 (st w1 + x), zup bk w1 (-1), zup sw w1 (sw w1 + x), 0, x, ?_, ⟨rfl, b1⟩, ⟨rfl, b2⟩, ⟨rfl, b3⟩, ⟨rfl, b4⟩, h5, h6, fun g g0 g1 => ?_⟩
      · simp (disch := omega) only [zck_t, if_pos, if_neg, if_true, if_false, not_true_eq_false, not_false_eq_true, zb1_e, zb2_e, zb3_e, zb4_e, pE_asks1, zlt]
        rw [e3]
        simp (disch := omega) only [zck_t, if_pos, if_neg, if_true, if_false, not_true_eq_false, not_false_eq_true, zb1_e, zb2_e, zb3_e, zb4_e]
      · obtain ⟨⟨t1, t2, t3⟩, t4⟩ := h7 g g0 g1
        by_cases c2 : g = w1
        · subst c2
          rw [zup_s, zup_s, zup_s, zup_s]
          exact ⟨⟨by omega, by omega, by omega⟩, Or.inl ⟨rfl, rfl⟩⟩
        · rw [zup_n c2, zup_n c2, zup_n c2, zup_n c2]
          exact ⟨⟨t1, by omega, by omega⟩, t4⟩
  · refine ⟨br, st, bk, sw, 1, out, ?_, hK⟩
    simp (disch := omega) only [zck_t, if_pos, if_neg, if_true, if_false, not_true_eq_false, not_false_eq_true, zb1_e, zb2_e, zb4_e, pE_asks0]
