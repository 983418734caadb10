/-! ===== the model sews a field ===== -/
theorem pE_command {k x y o : Int → Int} {C : List qC} {n nx ny p1 p2 p3 p4 : Int} (h : qCm k x y o n C) (hn : n < 20000) :
    ∃ k' x' y' o', f_X7_command n k x y o nx ny p1 p2 p3 p4 = some (n + 1, k', x', y', o', nx + p2, ny + p3) ∧ qCm k' x' y' o' (n + 1) (C ++ [(p1, p2, p3, p4)]) := by
  have hn0 := qRow_nn h
  refine ⟨_, _, _, _, ?_, qCm_put h p1 p2 p3 p4⟩
  unfold f_X7_command
  simp (disch := omega) only [zck_t, zlt]
theorem pE_msewLoop {col ic co cX cY de lo sh pu hu k x y o xs ys cr : Int → Int} {C : List qC} {np n f b cc rY : Int} {p0 : Int × Int} {T : List (Int × Int)} (hpt : qPt xs ys np (p0 :: T)) (hnp : np ≤ 4096) (hbox : ∀ q ∈ p0 :: T, qBox q) (h : qCm k x y o n C) (hn : C.length + (qSew f p0 T).length ≤ 16641) :
    ∃ i n' k' x' y' o', zlp (fun z => f_X7_sews_L101 col ic co cX cY de lo sh pu hu b xs ys np cr cc rY f z.1 z.2.1 z.2.2.1 z.2.2.2.1 z.2.2.2.2.1 z.2.2.2.2.2.1 z.2.2.2.2.2.2.1 z.2.2.2.2.2.2.2) zFU (1, n, k, x, y, o, p0.1, p0.2) = some (i, n', k', x', y', o', (qLast p0 T).1, (qLast p0 T).2) ∧ qCm k' x' y' o' n' (C ++ qSew f p0 T) := by
  obtain ⟨hd, hn1, hall⟩ := qPt_head hpt
  have hboxT : ∀ q ∈ T, qBox q := fun q hq => hbox q (List.mem_cons.mpr (Or.inr hq))
  have H : ∃ q, zlp (fun z => f_X7_sews_L101 col ic co cX cY de lo sh pu hu b xs ys np cr cc rY f z.1 z.2.1 z.2.2.1 z.2.2.2.1 z.2.2.2.2.1 z.2.2.2.2.2.1 z.2.2.2.2.2.2.1 z.2.2.2.2.2.2.2) zFU (1, n, k, x, y, o, p0.1, p0.2) = some q ∧ (q.2.2.2.2.2.2.1 = (qLast p0 T).1 ∧ q.2.2.2.2.2.2.2 = (qLast p0 T).2 ∧ qCm q.2.2.1 q.2.2.2.1 q.2.2.2.2.1 q.2.2.2.2.2.1 q.2.1 (C ++ qSew f p0 T)) := by
    refine zlp_for (fun s : Int × Int × (Int → Int) × (Int → Int) × (Int → Int) × (Int → Int) × Int × Int => s.1) (lo := 1) (hi := np) (fun j s => s.2.2.2.2.2.2.1 = (qLast p0 (T.take (j - 1).toNat)).1 ∧ s.2.2.2.2.2.2.2 = (qLast p0 (T.take (j - 1).toNat)).2 ∧ qCm s.2.2.1 s.2.2.2.1 s.2.2.2.2.1 s.2.2.2.2.2.1 s.2.1 (C ++ qSew f p0 (T.take (j - 1).toNat))) _ hn1 (by omega) ?_ ?_ (1, n, k, x, y, o, p0.1, p0.2) rfl ?_
    · intro s h0 h1 hR
      obtain ⟨j, n, k, x, y, o, nx, ny⟩ := s
      replace h0 : 1 ≤ j := h0
      replace h1 : j < np := h1
      obtain ⟨r1, r2, hR⟩ := hR
      replace r1 : nx = (qLast p0 (T.take (j - 1).toNat)).1 := r1
      replace r2 : ny = (qLast p0 (T.take (j - 1).toNat)).2 := r2
      replace hR : qCm k x y o n (C ++ qSew f p0 (T.take (j - 1).toNat)) := hR
      have hpos : (nx, ny) = qLast p0 (T.take (j - 1).toNat) := by rw [r1, r2]
      have hb1 : qBox (nx, ny) := by
        rw [hpos]
        exact qLast_in (hbox p0 (List.mem_cons.mpr (Or.inl rfl))) (fun q hq => hboxT q (List.mem_of_mem_take hq))
      have htk := qPt_tail hpt h0 h1
      have hb2 : qBox (xs j, ys j) := hboxT _ (List.mem_of_mem_take (i := j.toNat) (by rw [htk]; exact List.mem_append.mpr (Or.inr (List.mem_singleton.mpr rfl))))
      have hsew : qSew f p0 (T.take j.toNat) = qSew f p0 (T.take (j - 1).toNat) ++ qMv f (nx, ny) (xs j, ys j) := by
        rw [htk, qSew_app, ← hpos]
        show _ ++ (qMv f (nx, ny) (xs j, ys j) ++ []) = _
        rw [List.append_nil]
      have hlen : (qSew f p0 (T.take j.toNat)).length ≤ (qSew f p0 T).length := by
        have e := List.take_append_drop j.toNat T
        have e2 : qSew f p0 T = qSew f p0 (T.take j.toNat) ++ qSew f (qLast p0 (T.take j.toNat)) (T.drop j.toNat) := by rw [← qSew_app, e]
        rw [e2, List.length_append]
        omega
      rw [hsew, List.length_append] at hlen
      have hnl := hR.1
      rw [List.length_append] at hnl
      obtain ⟨⟨a1, a2⟩, a3, a4⟩ := hb1
      obtain ⟨⟨b1, b2⟩, b3, b4⟩ := hb2
      replace a1 : -3 ≤ nx := a1
      replace a2 : nx ≤ 34 := a2
      replace a3 : 0 ≤ ny := a3
      replace a4 : ny ≤ 31 := a4
      replace b1 : -3 ≤ xs j := b1
      replace b2 : xs j ≤ 34 := b2
      replace b3 : 0 ≤ ys j := b3
      replace b4 : ys j ≤ 31 := b4
      have hg := qG_e (xs j - nx) (ys j - ny)
      have hmv : qMv f (nx, ny) (xs j, ys j) = if qG (xs j - nx) (ys j - ny) = 0 then [] else [((if qG (xs j - nx) (ys j - ny) ≤ 12 then 0 else 1, xs j - nx, ys j - ny, f) : qC)] := rfl
      have h148 : ∀ kd : Int, kd = (if qG (xs j - nx) (ys j - ny) ≤ 12 then 0 else 1) → f_X7_sews_L101_148 col ic co cX cY de lo sh pu hu b xs ys np cr cc n k x y o nx ny rY f j (xs j - nx) (ys j - ny) = f_X7_sews_L101_174 col ic co cX cY de lo sh pu hu b xs ys np cr cc n k x y o nx ny rY f j (xs j - nx) (ys j - ny) kd := by
        intro kd hkd
        unfold f_X7_sews_L101_148 f_X7_sews_L101_173
        rw [pE_size (by omega), pE_size (by omega)]
        by_cases z : qG (xs j - nx) (ys j - ny) ≤ 12
        · rw [if_pos z] at hkd
          subst hkd
          simp (disch := omega) only [zck_t, if_neg, zb1_e]
        · rw [if_neg z] at hkd
          subst hkd
          by_cases z2 : 12 < ((xs j - nx).natAbs : Int)
          · simp (disch := omega) only [zck_t, if_pos, zb1_e]
          · simp (disch := omega) only [zck_t, if_pos, if_neg, zb1_e]
      by_cases z : qG (xs j - nx) (ys j - ny) = 0
      · rw [if_pos z] at hmv
        rw [hmv, List.append_nil] at hsew
        refine ⟨(j + 1, n, k, x, y, o, nx, ny), ?_, rfl, ?_, ?_, ?_⟩
        · show f_X7_sews_L101 col ic co cX cY de lo sh pu hu b xs ys np cr cc rY f j n k x y o nx ny = _
          unfold f_X7_sews_L101
          simp (disch := omega) only [zck_t, if_neg, if_pos, zlt]
        · show nx = (qLast p0 (T.take (j + 1 - 1).toNat)).1
          rw [show j + 1 - 1 = j by omega, htk, qLast_1]
          show nx = xs j
          omega
        · show ny = (qLast p0 (T.take (j + 1 - 1).toNat)).2
          rw [show j + 1 - 1 = j by omega, htk, qLast_1]
          show ny = ys j
          omega
        · show qCm k x y o n (C ++ qSew f p0 (T.take (j + 1 - 1).toNat))
          rw [show j + 1 - 1 = j by omega, hsew]
          exact hR
      · rw [if_neg z] at hmv
        rw [hmv, List.length_singleton] at hlen
        obtain ⟨k', x', y', o', e, hr⟩ := pE_command (nx := nx) (ny := ny) (p1 := if qG (xs j - nx) (ys j - ny) ≤ 12 then 0 else 1) (p2 := xs j - nx) (p3 := ys j - ny) (p4 := f) hR (by omega)
        rw [List.append_assoc, ← hmv, ← hsew] at hr
        rw [show nx + (xs j - nx) = xs j by omega, show ny + (ys j - ny) = ys j by omega] at e
        have h174 : f_X7_sews_L101_148 col ic co cX cY de lo sh pu hu b xs ys np cr cc n k x y o nx ny rY f j (xs j - nx) (ys j - ny) = some (.inl (j + 1, n + 1, k', x', y', o', xs j, ys j)) := by
          rw [h148 _ rfl]
          unfold f_X7_sews_L101_174
          rw [e]
          rfl
        refine ⟨(j + 1, n + 1, k', x', y', o', xs j, ys j), ?_, rfl, ?_, ?_, ?_⟩
        · show f_X7_sews_L101 col ic co cX cY de lo sh pu hu b xs ys np cr cc rY f j n k x y o nx ny = _
          unfold f_X7_sews_L101
          by_cases w : xs j - nx = 0
          · simp (disch := omega) only [zck_t, if_neg, if_pos, zlt]
            exact h174
          · simp (disch := omega) only [zck_t, if_neg, zlt]
            exact h174
        · show xs j = (qLast p0 (T.take (j + 1 - 1).toNat)).1
          rw [show j + 1 - 1 = j by omega, htk, qLast_1]
        · show ys j = (qLast p0 (T.take (j + 1 - 1).toNat)).2
          rw [show j + 1 - 1 = j by omega, htk, qLast_1]
        · show qCm k' x' y' o' (n + 1) (C ++ qSew f p0 (T.take (j + 1 - 1).toNat))
          rw [show j + 1 - 1 = j by omega]
          exact hr
    · intro s h0 hR
      obtain ⟨j, n, k, x, y, o, nx, ny⟩ := s
      replace h0 : j = np := h0
      rw [hall] at hR
      refine ⟨(j, n, k, x, y, o, nx, ny), ?_, hR⟩
      show f_X7_sews_L101 col ic co cX cY de lo sh pu hu b xs ys np cr cc rY f j n k x y o nx ny = _
      unfold f_X7_sews_L101
      simp (disch := omega) only [zck_t, if_pos]
    · refine ⟨rfl, rfl, ?_⟩
      show qCm k x y o n (C ++ [])
      rw [List.append_nil]
      exact h
  obtain ⟨⟨i, n', k', x', y', o', nx, ny⟩, e, r1, r2, hr⟩ := H
  replace r1 : nx = (qLast p0 T).1 := r1
  replace r2 : ny = (qLast p0 T).2 := r2
  subst r1
  subst r2
  exact ⟨i, n', k', x', y', o', e, hr⟩
theorem qSq_0 {p q : Int × Int} (hp : qBox p) (hq : qBox q) : qSq p q ≤ 0 ↔ qG (q.1 - p.1) (q.2 - p.2) = 0 := by
  have e1 := qSqr (d := q.1 - p.1) (D := 100) (by omega)
  have e2 := qSqr (d := q.2 - p.2) (D := 100) (by omega)
  have hg := qG_e (q.1 - p.1) (q.2 - p.2)
  have pos : ∀ d : Int, d ≠ 0 → 1 ≤ d * d := by
    intro d hd
    rcases Int.lt_or_le d 0 with z | z
    · have := qSq_le (a := 1) (b := -d) (by omega) (by omega)
      rw [Int.neg_mul_neg] at this
      exact this
    · exact qSq_le (a := 1) (b := d) (by omega) (by omega)
  unfold qSq
  constructor
  · intro h
    have z1 : q.1 - p.1 = 0 := by
      rcases Decidable.em (q.1 - p.1 = 0) with z | z
      · exact z
      · have := pos _ z
        omega
    have z2 : q.2 - p.2 = 0 := by
      rcases Decidable.em (q.2 - p.2 = 0) with z | z
      · exact z
      · have := pos _ z
        omega
    omega
  · intro h
    rw [show q.1 - p.1 = 0 by omega, show q.2 - p.2 = 0 by omega]
    decide
theorem pE_msews {col ic co cX cY de' lo sh' pu' hu k x y o xs ys cr cx cy : Int → Int} {C : List qC} {np n f b cc rY now cl c de le sh pu un : Int} {p p0 : Int × Int} {T : List (Int × Int)} (hf : 0 ≤ f ∧ f < 8) (hF : qFd cl c cx cy de le sh pu un) (hM : qMo f cl c cx cy de le sh pu un co cX cY ic de' lo sh' pu' hu) (hT : qPts cl c cx cy de le sh pu un = p0 :: T) (h : qCm k x y o n C) (hp : qBox p) (hcol : 0 ≤ col f ∧ col f < 6) (hnow : -1 ≤ now ∧ now < 6) (hb : 0 ≤ b ∧ b ≤ 100) (hn : C.length + (qFC now (col f) b f p p0 T).length ≤ 16641) :
    ∃ xs' ys' np' cr' cc' n' k' x' y' o' rY', f_X7_sews col ic co cX cY de' lo sh' pu' hu b xs ys np cr cc n k x y o p.1 p.2 rY f now = some (xs', ys', np', cr', cc', n', k', x', y', o', (qLast p0 T).1, (qLast p0 T).2, rY') ∧ qCm k' x' y' o' n' (C ++ qFC now (col f) b f p p0 T) := by
  have hbd := qPts_b hF
  have hbox := qPts_box hF
  obtain ⟨xs', ys', np', cr', cc', rY', ef, hpt⟩ := pE_finds (xs := xs) (ys := ys) (n := np) (cr := cr) (cc := cc) (rY := rY) hf hF hM (by have := hbd.1; omega)
  rw [hT] at hpt hbox hbd
  obtain ⟨hd, hn1, hall⟩ := qPt_head hpt
  have hp0 : qBox p0 := hbox p0 (List.mem_cons.mpr (Or.inl rfl))
  have hd1 : xs' 0 = p0.1 := by rw [← hd]
  have hd2 : ys' 0 = p0.2 := by rw [← hd]
  have hsq := qSq_b hp hp0
  have hsq0 := qSq_0 hp hp0
  have hbb := qSqr (d := b) (D := 100) (by omega)
  have hnp' : np' ≤ 4096 := by have := hpt.1; have := hbd.1; omega
  have h66 : ∀ (C : List qC) (n : Int) (k x y o : Int → Int), qCm k x y o n C → C.length + (qGo f p p0 ++ qSew f p0 T).length ≤ 16641 → ∃ n' k' x' y' o', f_X7_sews_66 col ic co cX cY de' lo sh' pu' hu b xs' ys' np' cr' cc' n k x y o p.1 p.2 rY' f (qSq p p0) = some (xs', ys', np', cr', cc', n', k', x', y', o', (qLast p0 T).1, (qLast p0 T).2, rY') ∧ qCm k' x' y' o' n' (C ++ (qGo f p p0 ++ qSew f p0 T)) := by
    intro C n k x y o h hn
    unfold f_X7_sews_66
    rw [hd1, hd2]
    by_cases z : qG (p0.1 - p.1) (p0.2 - p.2) = 0
    · have hgo : qGo f p p0 = [] := by unfold qGo; rw [if_pos z]
      rw [hgo, List.nil_append] at hn ⊢
      obtain ⟨i, n', k', x', y', o', e, hr⟩ := pE_msewLoop (col := col) (ic := ic) (co := co) (cX := cX) (cY := cY) (de := de') (lo := lo) (sh := sh') (pu := pu') (hu := hu) (cr := cr') (cc := cc') (rY := rY') (b := b) hpt hnp' hbox h hn
      refine ⟨n', k', x', y', o', ?_, hr⟩
      have hz := hsq0.mpr z
      have hg := qG_e (p0.1 - p.1) (p0.2 - p.2)
      simp (disch := omega) only [zck_t, if_pos]
      unfold f_X7_sews_98
      rw [show p.1 = p0.1 by omega, show p.2 = p0.2 by omega, e]
      rfl
    · have hgo : qGo f p p0 = [(1, p0.1 - p.1, p0.2 - p.2, f)] := by unfold qGo; rw [if_neg z]
      rw [hgo] at hn ⊢
      rw [List.length_append, List.length_singleton] at hn
      have hz : ¬ qSq p p0 ≤ 0 := fun w => z (hsq0.mp w)
      have hnl := h.1
      obtain ⟨k1, x1, y1, o1, e1, r1⟩ := pE_command (nx := p.1) (ny := p.2) (p1 := 1) (p2 := p0.1 - p.1) (p3 := p0.2 - p.2) (p4 := f) h (by omega)
      rw [show p.1 + (p0.1 - p.1) = p0.1 by omega, show p.2 + (p0.2 - p.2) = p0.2 by omega] at e1
      obtain ⟨i, n', k', x', y', o', e, hr⟩ := pE_msewLoop (col := col) (ic := ic) (co := co) (cX := cX) (cY := cY) (de := de') (lo := lo) (sh := sh') (pu := pu') (hu := hu) (cr := cr') (cc := cc') (rY := rY') (b := b) (f := f) hpt hnp' hbox r1 (by rw [List.length_append, List.length_singleton]; omega)
      refine ⟨n', k', x', y', o', ?_, by rw [← List.append_assoc]; exact hr⟩
      simp (disch := omega) only [zck_t, if_neg, e1, zb7_e]
      unfold f_X7_sews_98
      rw [e]
      rfl
  have h28 : ∀ (C : List qC) (n : Int) (k x y o : Int → Int), qCm k x y o n C → C.length + ((if qSq p p0 ≤ b * b then [] else [((2, 0, 0, -1) : qC)]) ++ (qGo f p p0 ++ qSew f p0 T)).length ≤ 16641 → ∃ n' k' x' y' o', f_X7_sews_28 col ic co cX cY de' lo sh' pu' hu b xs' ys' np' cr' cc' n k x y o p.1 p.2 rY' f = some (xs', ys', np', cr', cc', n', k', x', y', o', (qLast p0 T).1, (qLast p0 T).2, rY') ∧ qCm k' x' y' o' n' (C ++ ((if qSq p p0 ≤ b * b then [] else [((2, 0, 0, -1) : qC)]) ++ (qGo f p p0 ++ qSew f p0 T))) := by
    intro C n k x y o h hn
    have hst : f_X7_squareTo p.1 p.2 (xs' 0) (ys' 0) = some (qSq p p0) := by rw [hd1, hd2]; rfl
    unfold f_X7_sews_28
    rw [hst]
    by_cases q : qSq p p0 ≤ b * b
    · rw [if_pos q, List.nil_append] at hn ⊢
      simp (disch := omega) only [zck_t, if_pos, zb1_e]
      exact h66 C n k x y o h hn
    · rw [if_neg q] at hn ⊢
      rw [List.length_append, List.length_singleton] at hn
      have hnl := h.1
      obtain ⟨k1, x1, y1, o1, e1, r1⟩ := pE_command (nx := p.1) (ny := p.2) (p1 := 2) (p2 := 0) (p3 := 0) (p4 := -1) h (by omega)
      rw [Int.add_zero, Int.add_zero] at e1
      obtain ⟨n', k', x', y', o', e, hr⟩ := h66 _ _ _ _ _ _ r1 (by rw [List.length_append, List.length_singleton]; omega)
      refine ⟨n', k', x', y', o', ?_, by rw [← List.append_assoc]; exact hr⟩
      simp (disch := omega) only [zck_t, if_neg, zb1_e, e1, zb7_e]
      exact e
  have hFC : qFC now (col f) b f p p0 T = (if now = -1 ∨ now = col f then [] else [((3, 0, 0, -1) : qC)]) ++ ((if qSq p p0 ≤ b * b then [] else [((2, 0, 0, -1) : qC)]) ++ (qGo f p p0 ++ qSew f p0 T)) := by
    unfold qFC
    rw [List.append_assoc, List.append_assoc]
  rw [hFC] at hn ⊢
  unfold f_X7_sews
  rw [ef]
  simp only [zb6_e]
  by_cases q1 : now = -1
  · rw [if_pos (Or.inl q1), List.nil_append] at hn ⊢
    obtain ⟨n', k', x', y', o', e, hr⟩ := h28 C n k x y o h hn
    refine ⟨xs', ys', np', cr', cc', n', k', x', y', o', rY', ?_, hr⟩
    simp (disch := omega) only [zck_t, if_pos]
    exact e
  · by_cases q2 : now = col f
    · rw [if_pos (Or.inr q2), List.nil_append] at hn ⊢
      obtain ⟨n', k', x', y', o', e, hr⟩ := h28 C n k x y o h hn
      refine ⟨xs', ys', np', cr', cc', n', k', x', y', o', rY', ?_, hr⟩
      simp (disch := omega) only [zck_t, if_neg, if_pos]
      exact e
    · have hno : ¬ (now = -1 ∨ now = col f) := by omega
      rw [if_neg hno] at hn ⊢
      rw [List.length_append, List.length_singleton] at hn
      have hnl := h.1
      obtain ⟨k1, x1, y1, o1, e1, r1⟩ := pE_command (nx := p.1) (ny := p.2) (p1 := 3) (p2 := 0) (p3 := 0) (p4 := -1) h (by omega)
      rw [Int.add_zero, Int.add_zero] at e1
      obtain ⟨n', k', x', y', o', e, hr⟩ := h28 _ _ _ _ _ _ r1 (by rw [List.length_append, List.length_singleton]; omega)
      refine ⟨xs', ys', np', cr', cc', n', k', x', y', o', rY', ?_, by rw [← List.append_assoc]; exact hr⟩
      simp (disch := omega) only [zck_t, if_neg, e1, zb7_e]
      exact e
