/-! ===== files: what is written is read whole; damage is found ===== -/
/-- bytes from a place on -/
def yAt (b : Int → Int) : Int → List Int → Prop
  | _, [] => True
  | p, v :: L => b p = v ∧ yAt b (p + 1) L
theorem yAt_app {b : Int → Int} {A B : List Int} : ∀ {p : Int}, yAt b p (A ++ B) → yAt b p A ∧ yAt b (p + (A.length : Int)) B := by
  induction A with
  | nil =>
    intro p h
    refine ⟨trivial, ?_⟩
    rw [show p + (([] : List Int).length : Int) = p from Int.add_zero p]
    exact h
  | cons v A ih =>
    intro p h
    obtain ⟨h1, h2⟩ := ih h.2
    refine ⟨⟨h.1, h1⟩, ?_⟩
    rw [List.length_cons, show p + ((A.length + 1 : Nat) : Int) = p + 1 + (A.length : Int) by omega]
    exact h2
theorem yAt_of {b : Int → Int} {L : List Int} : ∀ {p : Int}, (∀ i : Nat, i < L.length → b (p + i) = L.getD i 0) → yAt b p L := by
  induction L with
  | nil => intro p _; trivial
  | cons v L ih =>
    intro p h
    refine ⟨?_, ih (fun i hi => ?_)⟩
    · have := h 0 (by rw [List.length_cons]; omega)
      rw [show p + ((0 : Nat) : Int) = p by omega] at this
      exact this
    · have := h (i + 1) (by rw [List.length_cons]; omega)
      rw [show p + ((i + 1 : Nat) : Int) = p + 1 + (i : Int) by omega] at this
      exact this
/-- from p on the file is read as R, whatever the fuel -/
def yV (n fm : Int) (b : Int → Int) (R : Int × Int) (p st : Int) : Prop := ∀ k : Nat, n - p ≤ k → qRd n fm b k p st = R
/-- a short command that may be -/
abbrev yOkc (fm k x y : Int) : Prop := (0 ≤ k ∧ k ≤ 4) ∧ (-(qLim fm) ≤ x ∧ x ≤ qLim fm) ∧ (-(qLim fm) ≤ y ∧ y ≤ qLim fm) ∧ (2 ≤ k → x = 0 ∧ y = 0)
theorem yWd {fm : Int} : qWd fm = 2 ∨ qWd fm = 3 := by
  unfold qWd
  split <;> omega
theorem yWr_ok {n fm k x y p : Int} {b : Int → Int} (hfm : fm = 0 ∨ fm = 1) (hok : yOkc fm k x y) (ha : yAt b p (qBy fm k x y)) (hp : p + qWd fm ≤ n) : qWr n fm b p = -1 ∧ qKd fm b p = k := by
  obtain ⟨o1, o2, o3, o4⟩ := hok
  rcases hfm with q | q
  · subst q
    rw [show qLim 0 = 12 from rfl] at o2 o3
    rw [show qWd 0 = 2 from rfl] at hp
    obtain ⟨a1, a2, -⟩ : b p = 32 * k + x + 16 ∧ b (p + 1) = y + 16 ∧ True := ha
    have hk : qKd 0 b p = k := by
      unfold qKd
      rw [if_pos rfl, a1]
      omega
    refine ⟨?_, hk⟩
    unfold qWr
    rw [hk, if_neg (by omega), if_neg (by omega), if_pos rfl, if_neg (by unfold qBad; omega), if_neg (by omega), if_neg (by unfold qBad; omega)]
  · subst q
    rw [show qLim 1 = 121 from rfl] at o2 o3
    rw [show qWd 1 = 3 from rfl] at hp
    obtain ⟨a1, a2, a3, -⟩ : b p = k ∧ b (p + 1) = x + 128 ∧ b (p + 1 + 1) = y + 128 ∧ True := ha
    rw [show p + 1 + 1 = p + 2 by omega] at a3
    have hk : qKd 1 b p = k := by
      unfold qKd
      rw [if_neg (by decide), a1]
    refine ⟨?_, hk⟩
    unfold qWr
    rw [hk, if_neg (by omega), if_neg (by omega), if_neg (by decide), if_neg (by omega), if_neg (by unfold qBad; omega), if_neg (by omega), if_neg (by unfold qBad; omega)]
theorem yBy_len {fm k x y : Int} (hfm : fm = 0 ∨ fm = 1) : ((qBy fm k x y).length : Int) = qWd fm := qBy_len hfm
theorem yV_step {n fm k x y p st : Int} {b : Int → Int} {R : Int × Int} (hfm : fm = 0 ∨ fm = 1) (hok : yOkc fm k x y) (ha : yAt b p (qBy fm k x y)) (hp : p + qWd fm ≤ n) (hk : ¬ k = 4) (h : yV n fm b R (p + qWd fm) (if k = 0 then st + 1 else st)) : yV n fm b R p st := by
  intro j hj
  have hw := yWd (fm := fm)
  obtain ⟨e1, e2⟩ := yWr_ok hfm hok ha hp
  cases j with
  | zero => exact absurd hj (by omega)
  | succ j =>
    rw [qRd_succ, if_neg (by omega), if_pos e1, e2, if_neg hk]
    exact h j (by omega)
theorem yV_end {n fm p st : Int} {b : Int → Int} (hfm : fm = 0 ∨ fm = 1) (ha : yAt b p (qBy fm 4 0 0)) (hp : n = p + qWd fm + 1) (hs : b (p + qWd fm) = qCt b (p + qWd fm) % 256) : yV n fm b (-1, st) p st := by
  intro j hj
  have hw := yWd (fm := fm)
  have hl : 0 < qLim fm := by unfold qLim; split <;> omega
  obtain ⟨e1, e2⟩ := yWr_ok (n := n) hfm (show yOkc fm 4 0 0 by omega) ha (by omega)
  cases j with
  | zero => exact absurd hj (by omega)
  | succ j =>
    rw [qRd_succ, if_neg (by omega), if_pos e1, e2, if_pos rfl]
    unfold qAf
    rw [if_neg (by omega), if_pos hs, if_pos (by omega)]
theorem yPb_1 {fm : Int} {m : qC} (h : ¬ m.1 = 1) : qPb fm m = qBy fm m.1 m.2.1 m.2.2.1 := by
  have hn : qPn fm m = 1 := by
    unfold qPn
    rw [if_neg h]
  unfold qPb
  rw [hn, qFM_cons (by omega), qFM_nil (by omega), List.append_nil]
  unfold qPj
  rw [hn, qD1_1, qD1_1]
theorem yPj_ok {nn fm j : Int} {m : qC} (hfm : fm = 0 ∨ fm = 1) (h : qWf nn m) (h1 : m.1 ≤ 1) : yOkc fm m.1 (qD1 m.2.1 j (qPn fm m)) (qD1 m.2.2.1 j (qPn fm m)) := by
  obtain ⟨b1, b2, b3, b4⟩ := qPn_b hfm h
  obtain ⟨h1', h2, h3, h4, h5, h6⟩ := h
  have hg := qG_e m.2.1 m.2.2.1
  have d1 := qD1_b (d := m.2.1) (j := j) (n := qPn fm m) (M := qLim fm) (by omega) (by omega)
  have d2 := qD1_b (d := m.2.2.1) (j := j) (n := qPn fm m) (M := qLim fm) (by omega) (by omega)
  exact ⟨h1', d1, d2, fun z => by omega⟩
theorem yV_m {n nn fm p st : Int} {b : Int → Int} {R : Int × Int} {m : qC} (hfm : fm = 0 ∨ fm = 1) (hm : qWf nn m) (h3 : m.1 ≤ 3) (ha : yAt b p (qPb fm m)) (hp : p + ((qPb fm m).length : Int) ≤ n) (h : yV n fm b R (p + ((qPb fm m).length : Int)) (st + qIsK 0 m)) : yV n fm b R p st := by
  have hl : 12 ≤ qLim fm := by unfold qLim; split <;> omega
  by_cases z : m.1 = 1
  · have hI : qIsK 0 m = 0 := by
      unfold qIsK
      rw [if_neg (by omega)]
    rw [hI, Int.add_zero] at h
    have key : ∀ (t : Nat) (lo p : Int), lo + t = qPn fm m + 1 → yAt b p (qFM (qPj fm m) lo (qPn fm m + 1)) → p + ((qFM (qPj fm m) lo (qPn fm m + 1)).length : Int) ≤ n → yV n fm b R (p + ((qFM (qPj fm m) lo (qPn fm m + 1)).length : Int)) st → yV n fm b R p st := by
      intro t
      induction t with
      | zero =>
        intro lo p e ha hp h
        rw [qFM_nil (by omega)] at h
        rw [show p + (([] : List Int).length : Int) = p from Int.add_zero p] at h
        exact h
      | succ t ih =>
        intro lo p e ha hp h
        rw [qFM_cons (by omega)] at ha hp h
        have hbl : ((qPj fm m lo).length : Int) = qWd fm := yBy_len hfm
        obtain ⟨a1, a2⟩ := yAt_app ha
        rw [List.length_append] at hp h
        refine yV_step hfm (yPj_ok (j := lo) hfm hm (by omega)) a1 (by omega) (by omega) ?_
        rw [if_neg (by omega)]
        rw [hbl] at a2
        refine ih (lo + 1) (p + qWd fm) (by omega) a2 (by omega) ?_
        rw [show p + qWd fm + ((qFM (qPj fm m) (lo + 1) (qPn fm m + 1)).length : Int) = p + (((qPj fm m lo).length + (qFM (qPj fm m) (lo + 1) (qPn fm m + 1)).length : Nat) : Int) by omega]
        exact h
    have hb := (qPn_b hfm hm).1
    exact key (qPn fm m).toNat 1 p (by omega) ha hp h
  · rw [yPb_1 z] at ha hp h
    rw [yBy_len hfm] at hp h
    obtain ⟨h1', h2, h3', h4, h5, h6⟩ := hm
    have hg := qG_e m.2.1 m.2.2.1
    refine yV_step hfm (show yOkc fm m.1 m.2.1 m.2.2.1 by
      by_cases z0 : m.1 = 0
      · have := h4 z0
        omega
      · have := h6 (by omega)
        omega) ha hp (by omega) ?_
    unfold qIsK at h
    by_cases z0 : m.1 = 0
    · rw [if_pos z0] at h ⊢
      exact h
    · rw [if_neg z0] at h ⊢
      rw [Int.add_zero] at h
      exact h
theorem yV_C {n nn fm : Int} {b : Int → Int} {R : Int × Int} (hfm : fm = 0 ∨ fm = 1) (C : List qC) : ∀ (p st : Int), (∀ m ∈ C, qWf nn m ∧ m.1 ≤ 3) → yAt b p (qFile fm C) → p + ((qFile fm C).length : Int) ≤ n → yV n fm b R (p + ((qFile fm C).length : Int)) (st + qSum (qIsK 0) C) → yV n fm b R p st := by
  induction C with
  | nil =>
    intro p st _ _ _ h
    rw [show p + ((qFile fm []).length : Int) = p from Int.add_zero p, qSum_nil, Int.add_zero] at h
    exact h
  | cons m C ih =>
    intro p st hC ha hp h
    have e : qFile fm (m :: C) = qPb fm m ++ qFile fm C := rfl
    rw [e] at ha hp h
    obtain ⟨a1, a2⟩ := yAt_app ha
    rw [List.length_append] at hp h
    obtain ⟨w, w3⟩ := hC m (List.mem_cons.mpr (Or.inl rfl))
    refine yV_m hfm w w3 a1 (by omega) ?_
    refine ih _ _ (fun x hx => hC x (List.mem_cons.mpr (Or.inr hx))) a2 (by omega) ?_
    rw [qSum_cons] at h
    rw [show p + ((qPb fm m).length : Int) + ((qFile fm C).length : Int) = p + (((qPb fm m).length + (qFile fm C).length : Nat) : Int) by omega, Int.add_assoc]
    exact h
/-- what is written is read whole -/
theorem yRead_w {f : yF} {bd fm : Int} (h : yWfF f) (hb : 0 ≤ bd ∧ bd ≤ 100) (hfm : fm = 0 ∨ fm = 1) : yRead (((yFile fm (yC f bd)).length : Int) + 1, fm, yByt fm (yC f bd)) = (-1, qSum (qIsK 0) (yC f bd)) := by
  obtain ⟨C', hC, h3, -, -⟩ := yC_pl h hb
  obtain ⟨-, -, hwf, -⟩ := yC_ok h hb
  have ha : yAt (yByt fm (yC f bd)) 0 (yFile fm (yC f bd) ++ [qCt (fun i => (yFile fm (yC f bd)).getD i.toNat 0) ((yFile fm (yC f bd)).length : Int) % 256]) := by
    refine yAt_of (fun i hi => ?_)
    unfold yByt
    rw [show (0 + (i : Int)).toNat = i by omega]
  obtain ⟨a1, a2⟩ := yAt_app ha
  rw [Int.zero_add] at a2
  have hct : qCt (yByt fm (yC f bd)) ((yFile fm (yC f bd)).length : Int) = qCt (fun i => (yFile fm (yC f bd)).getD i.toNat 0) ((yFile fm (yC f bd)).length : Int) := by
    refine qCt_congr (yFile fm (yC f bd)).length (fun v v0 v1 => ?_)
    unfold yByt
    rw [List.getD_eq_getElem?_getD, List.getElem?_append_left (by omega), ← List.getD_eq_getElem?_getD]
  have hs : yByt fm (yC f bd) ((yFile fm (yC f bd)).length : Int) = qCt (yByt fm (yC f bd)) ((yFile fm (yC f bd)).length : Int) % 256 := by
    rw [hct]
    exact a2.1
  have hfile : yFile fm (yC f bd) = qFile fm C' ++ qBy fm 4 0 0 := by
    have e1 : qFile fm (C' ++ [(4, 0, 0, -1)]) = qFile fm C' ++ (qPb fm (4, 0, 0, -1) ++ []) := qFile_app
    rw [List.append_nil, yPb_1 (m := (4, 0, 0, -1)) (show ¬ (4 : Int) = 1 by decide)] at e1
    show qFile fm (yC f bd) = _
    rw [hC]
    exact e1
  have hlen : ((yFile fm (yC f bd)).length : Int) = ((qFile fm C').length : Int) + qWd fm := by
    rw [hfile, List.length_append]
    have := yBy_len (k := 4) (x := 0) (y := 0) hfm
    omega
  rw [hfile] at a1
  obtain ⟨b1, b2⟩ := yAt_app a1
  rw [Int.zero_add] at b2
  have hw := yWd (fm := fm)
  have hsum : qSum (qIsK 0) (yC f bd) = qSum (qIsK 0) C' := by
    rw [hC, qSum_app2, qSum_cons, qSum_nil]
    show qSum (qIsK 0) C' + (0 + 0) = qSum (qIsK 0) C'
    omega
  have hv : yV (((yFile fm (yC f bd)).length : Int) + 1) fm (yByt fm (yC f bd)) (-1, qSum (qIsK 0) (yC f bd)) 0 0 := by
    refine yV_C hfm C' 0 0 (nn := f.1) (fun m hm => ⟨hwf m (by rw [hC]; exact List.mem_append.mpr (Or.inl hm)), h3 m hm⟩) b1 (by omega) ?_
    rw [Int.zero_add, Int.zero_add, hsum]
    refine yV_end hfm b2 (by omega) ?_
    rw [← hlen]
    exact hs
  exact hv _ (by show _ - 0 ≤ _; omega)
theorem yWr_le {n fm p : Int} {b : Int → Int} (hn : 0 ≤ n) : qWr n fm b p ≤ n := by
  unfold qWr
  repeat' split
  all_goals omega
theorem yAf_le {n p : Int} {b : Int → Int} (hn : 0 ≤ n) : qAf n b p ≤ n := by
  unfold qAf
  repeat' split
  all_goals omega
theorem yRd_le {n fm : Int} {b : Int → Int} (hn : 0 ≤ n) (k : Nat) : ∀ p st, (qRd n fm b k p st).1 ≤ n := by
  induction k with
  | zero => intro p st; exact Int.le_refl n
  | succ k ih =>
    intro p st
    rw [qRd_succ]
    repeat' split
    · exact Int.le_refl n
    · exact yAf_le hn
    · exact ih _ _
    · exact ih _ _
    · exact yWr_le hn
/-- a whole file ends with its sum -/
theorem yRd_sum {n fm : Int} {b : Int → Int} (hn : 0 ≤ n) (k : Nat) : ∀ p st, 0 ≤ p → (qRd n fm b k p st).1 = -1 → 1 ≤ n ∧ b (n - 1) = qCt b (n - 1) % 256 := by
  induction k with
  | zero => intro p st _ h; replace h : n = -1 := h; omega
  | succ k ih =>
    intro p st hp h
    have hw := yWd (fm := fm)
    rw [qRd_succ] at h
    by_cases c1 : n ≤ p
    · rw [if_pos c1] at h; replace h : n = -1 := h; omega
    rw [if_neg c1] at h
    by_cases c2 : qWr n fm b p = -1
    · rw [if_pos c2] at h
      by_cases c3 : qKd fm b p = 4
      · rw [if_pos c3] at h
        replace h : qAf n b (p + qWd fm) = -1 := h
        unfold qAf at h
        by_cases c4 : n ≤ p + qWd fm
        · rw [if_pos c4] at h; omega
        rw [if_neg c4] at h
        by_cases c5 : b (p + qWd fm) = qCt b (p + qWd fm) % 256
        · rw [if_pos c5] at h
          by_cases c6 : n ≤ p + qWd fm + 1
          · have e : n - 1 = p + qWd fm := by omega
            rw [e]
            exact ⟨by omega, c5⟩
          · rw [if_neg c6] at h; omega
        · rw [if_neg c5] at h; omega
      · rw [if_neg c3] at h
        exact ih _ _ (by omega) h
    · rw [if_neg c2] at h
      exact absurd h c2
/-- of the same bytes only one length is whole -/
theorem yRd_one {n1 n2 fm : Int} {b : Int → Int} (h1 : 0 ≤ n1) (h2 : 0 ≤ n2) (k : Nat) : ∀ (j : Nat) p st st', 0 ≤ p → (qRd n1 fm b k p st).1 = -1 → (qRd n2 fm b j p st').1 = -1 → n1 = n2 := by
  induction k with
  | zero => intro j p st st' _ h; replace h : n1 = -1 := h; omega
  | succ k ih =>
    intro j p st st' hp h g
    have hw := yWd (fm := fm)
    cases j with
    | zero => replace g : n2 = -1 := g; omega
    | succ j =>
      rw [qRd_succ] at h g
      by_cases c1 : n1 ≤ p
      · rw [if_pos c1] at h; replace h : n1 = -1 := h; omega
      by_cases d1 : n2 ≤ p
      · rw [if_pos d1] at g; replace g : n2 = -1 := g; omega
      rw [if_neg c1] at h
      rw [if_neg d1] at g
      by_cases c2 : qWr n1 fm b p = -1
      · by_cases d2 : qWr n2 fm b p = -1
        · rw [if_pos c2] at h
          rw [if_pos d2] at g
          by_cases c3 : qKd fm b p = 4
          · rw [if_pos c3] at h g
            replace h : qAf n1 b (p + qWd fm) = -1 := h
            replace g : qAf n2 b (p + qWd fm) = -1 := g
            have E : ∀ n, 0 ≤ n → qAf n b (p + qWd fm) = -1 → n = p + qWd fm + 1 := by
              intro n hn h
              unfold qAf at h
              by_cases c4 : n ≤ p + qWd fm
              · rw [if_pos c4] at h; omega
              rw [if_neg c4] at h
              by_cases c5 : b (p + qWd fm) = qCt b (p + qWd fm) % 256
              · rw [if_pos c5] at h
                by_cases c6 : n ≤ p + qWd fm + 1
                · omega
                · rw [if_neg c6] at h; omega
              · rw [if_neg c5] at h; omega
            rw [E n1 h1 h, E n2 h2 g]
          · rw [if_neg c3] at h g
            exact ih j _ _ _ (by omega) h g
        · rw [if_neg d2] at g
          exact absurd g d2
      · rw [if_neg c2] at h
        exact absurd h c2
/-- one byte of a whole file that is another is found -/
theorem yRead_d {n fm p v : Int} {b : Int → Int} (hn : 0 ≤ n) (hp : 0 ≤ p ∧ p < n) (hb : ∀ j, 0 ≤ j → j < n → 0 ≤ b j ∧ b j ≤ 255) (hv : 0 ≤ v ∧ v ≤ 255) (h : (yRead (n, fm, b)).1 = -1) : (yRead (n, fm, zup b p v)).1 = -1 ↔ v = b p := by
  constructor
  · intro h'
    obtain ⟨n1, s1⟩ := yRd_sum hn _ 0 0 (Int.le_refl 0) h
    obtain ⟨-, s2⟩ := yRd_sum hn _ 0 0 (Int.le_refl 0) h'
    have hbp := hb p hp.1 hp.2
    dsimp only at s1 s2
    by_cases z : p = n - 1
    · have e := qCt_congr (a := zup b p v) (b := b) (n - 1).toNat (fun w w0 w1 => zup_n (by omega))
      rw [show (((n - 1).toNat : Nat) : Int) = n - 1 by omega] at e
      rw [e, z, zup_s] at s2
      rw [z]
      omega
    · have e := qCt_up (a := b) (v := p) (x := v) (n - 1).toNat hp.1 (by omega)
      rw [show (((n - 1).toNat : Nat) : Int) = n - 1 by omega] at e
      rw [e, zup_n (by omega)] at s2
      omega
  · intro e
    have : zup b p v = b := by
      funext j
      by_cases q : j = p
      · rw [q, zup_s, e]
      · rw [zup_n q]
    rw [this]
    exact h
