/-! ===== a field is sewn: the whole ===== -/
theorem qPt_tail {xs ys : Int → Int} {n : Int} {p0 : Int × Int} {T : List (Int × Int)} (h : qPt xs ys n (p0 :: T)) {i : Int} (h0 : 1 ≤ i) (h1 : i < n) : T.take i.toNat = T.take (i - 1).toNat ++ [(xs i, ys i)] := by
  have e := qRow_at h (i := i) (by omega) h1
  have e2 : i.toNat = (i - 1).toNat + 1 := by omega
  rw [e2, List.getElem?_cons_succ] at e
  rw [e2, List.take_succ, e]
  rfl
theorem qPt_head {xs ys : Int → Int} {n : Int} {p0 : Int × Int} {T : List (Int × Int)} (h : qPt xs ys n (p0 :: T)) : (xs 0, ys 0) = p0 ∧ 1 ≤ n ∧ T.take (n - 1).toNat = T := by
  have hl := h.1
  rw [List.length_cons] at hl
  have e := qRow_at h (i := 0) (by omega) (by omega)
  refine ⟨?_, by omega, List.take_of_length_le (by omega)⟩
  have e2 : (p0 :: T)[(0 : Int).toNat]? = some p0 := rfl
  rw [e2] at e
  exact (Option.some.inj e).symm
theorem qLast_in {p : Int × Int} {A : List (Int × Int)} (hp : qBox p) (hA : ∀ q ∈ A, qBox q) : qBox (qLast p A) := by
  induction A generalizing p with
  | nil => exact hp
  | cons q A ih => exact ih (hA q (List.mem_cons.mpr (Or.inl rfl))) (fun r hr => hA r (List.mem_cons.mpr (Or.inr hr)))
theorem qLast_1 {p q : Int × Int} {A : List (Int × Int)} : qLast p (A ++ [q]) = q := by rw [qLast_app]; rfl
theorem qSew_len {f : Int} {p : Int × Int} {L : List (Int × Int)} : (qSew f p L).length ≤ L.length := by
  induction L generalizing p with
  | nil => exact Nat.le_refl _
  | cons q L ih =>
    show (qMv f p q ++ qSew f q L).length ≤ L.length + 1
    have : (qMv f p q).length ≤ 1 := by
      unfold qMv
      split
      · exact Nat.zero_le _
      · exact Nat.le_refl _
    have := ih (p := q)
    rw [List.length_append]
    omega
theorem pE_sewLoop {col k x y o kc th xs ys : Int → Int} {C : List qC} {np n now f fc : Int} {sec : UInt32} {p0 : Int × Int} {T : List (Int × Int)} (hpt : qPt xs ys np (p0 :: T)) (hnp : np ≤ 2078) (hbox : ∀ q ∈ p0 :: T, qBox q) (h : qPR col C k x y o kc th n sec) (hcol : col f = now ∧ 0 ≤ now ∧ now < 6) (hn : C.length + (qSew f p0 T).length ≤ 16641) :
    ∃ i k' x' y' o' kc' th' n' sec', zlp (fun z => f_X3_sewField_L80 fc xs ys np now f z.1 z.2.1 z.2.2.1 z.2.2.2.1 z.2.2.2.2.1 z.2.2.2.2.2.1 z.2.2.2.2.2.2.1 z.2.2.2.2.2.2.2.1 z.2.2.2.2.2.2.2.2.1 z.2.2.2.2.2.2.2.2.2.1 z.2.2.2.2.2.2.2.2.2.2) zFU (1, k, x, y, o, kc, th, n, sec, p0.1, p0.2) = some (i, k', x', y', o', kc', th', n', sec', (qLast p0 T).1, (qLast p0 T).2) ∧ qPR col (C ++ qSew f p0 T) k' x' y' o' kc' th' n' sec' := by
  obtain ⟨hd, hn1, hall⟩ := qPt_head hpt
  have hboxT : ∀ q ∈ T, qBox q := fun q hq => hbox q (List.mem_cons.mpr (Or.inr hq))
  have H : ∃ q, zlp (fun z => f_X3_sewField_L80 fc xs ys np now f z.1 z.2.1 z.2.2.1 z.2.2.2.1 z.2.2.2.2.1 z.2.2.2.2.2.1 z.2.2.2.2.2.2.1 z.2.2.2.2.2.2.2.1 z.2.2.2.2.2.2.2.2.1 z.2.2.2.2.2.2.2.2.2.1 z.2.2.2.2.2.2.2.2.2.2) zFU (1, k, x, y, o, kc, th, n, sec, p0.1, p0.2) = some q ∧ (q.2.2.2.2.2.2.2.2.2.1 = (qLast p0 T).1 ∧ q.2.2.2.2.2.2.2.2.2.2 = (qLast p0 T).2 ∧ qPR col (C ++ qSew f p0 T) q.2.1 q.2.2.1 q.2.2.2.1 q.2.2.2.2.1 q.2.2.2.2.2.1 q.2.2.2.2.2.2.1 q.2.2.2.2.2.2.2.1 q.2.2.2.2.2.2.2.2.1) := by
    refine zlp_for (fun s : Int × (Int → Int) × (Int → Int) × (Int → Int) × (Int → Int) × (Int → Int) × (Int → Int) × Int × UInt32 × Int × Int => s.1) (lo := 1) (hi := np) (fun j s => s.2.2.2.2.2.2.2.2.2.1 = (qLast p0 (T.take (j - 1).toNat)).1 ∧ s.2.2.2.2.2.2.2.2.2.2 = (qLast p0 (T.take (j - 1).toNat)).2 ∧ qPR col (C ++ qSew f p0 (T.take (j - 1).toNat)) s.2.1 s.2.2.1 s.2.2.2.1 s.2.2.2.2.1 s.2.2.2.2.2.1 s.2.2.2.2.2.2.1 s.2.2.2.2.2.2.2.1 s.2.2.2.2.2.2.2.2.1) _ hn1 (by omega) ?_ ?_ (1, k, x, y, o, kc, th, n, sec, p0.1, p0.2) rfl ?_
    · intro s h0 h1 hR
      obtain ⟨j, k, x, y, o, kc, th, n, sec, nx, ny⟩ := s
      replace h0 : 1 ≤ j := h0
      replace h1 : j < np := h1
      obtain ⟨r1, r2, hR⟩ := hR
      replace r1 : nx = (qLast p0 (T.take (j - 1).toNat)).1 := r1
      replace r2 : ny = (qLast p0 (T.take (j - 1).toNat)).2 := r2
      replace hR : qPR col (C ++ qSew f p0 (T.take (j - 1).toNat)) k x y o kc th n sec := hR
      have hpos : (nx, ny) = qLast p0 (T.take (j - 1).toNat) := by rw [r1, r2]
      have hb1 : qBox (nx, ny) := by
        rw [hpos]
        exact qLast_in (hbox p0 (List.mem_cons.mpr (Or.inl rfl))) (fun q hq => hboxT q (List.mem_of_mem_take hq))
      have htk := qPt_tail hpt h0 h1
      have hb2 : qBox (xs j, ys j) := hboxT _ (List.mem_of_mem_take (i := j.toNat) (by rw [htk]; exact List.mem_append.mpr (Or.inr (List.mem_singleton.mpr rfl))))
      have hsew : qSew f p0 (T.take j.toNat) = qSew f p0 (T.take (j - 1).toNat) ++ qMv f (nx, ny) (xs j, ys j) := by
        rw [htk, qSew_app, ← hpos]
        show _ ++ (qMv f (nx, ny) (xs j, ys j) ++ []) = _
        rw [List.append_nil]
      have hlen : (qSew f p0 (T.take j.toNat)).length ≤ (qSew f p0 T).length := by
        have e := List.take_append_drop j.toNat T
        have e2 : qSew f p0 T = qSew f p0 (T.take j.toNat) ++ qSew f (qLast p0 (T.take j.toNat)) (T.drop j.toNat) := by rw [← qSew_app, e]
        rw [e2, List.length_append]
        omega
      rw [hsew, List.length_append] at hlen
      obtain ⟨k', x', y', o', kc', th', n', sec', e, hr⟩ := pE_goTo (ms := 1) (f := f) (now := now) hR hb1 hb2 (Or.inr rfl) hcol (by rw [if_neg (by decide), List.length_append]; omega)
      rw [if_neg (by decide), List.append_assoc, ← hsew] at hr
      refine ⟨(j + 1, k', x', y', o', kc', th', n', sec', xs j, ys j), ?_, rfl, ?_, ?_, ?_⟩
      · show f_X3_sewField_L80 fc xs ys np now f j k x y o kc th n sec nx ny = _
        unfold f_X3_sewField_L80
        simp (disch := omega) only [zck_t, if_neg, e, zb10_e]
      · show xs j = (qLast p0 (T.take (j + 1 - 1).toNat)).1
        rw [show j + 1 - 1 = j by omega, htk, qLast_1]
      · show ys j = (qLast p0 (T.take (j + 1 - 1).toNat)).2
        rw [show j + 1 - 1 = j by omega, htk, qLast_1]
      · show qPR col (C ++ qSew f p0 (T.take (j + 1 - 1).toNat)) k' x' y' o' kc' th' n' sec'
        rw [show j + 1 - 1 = j by omega]
        exact hr
    · intro s h0 hR
      obtain ⟨j, k, x, y, o, kc, th, n, sec, nx, ny⟩ := s
      replace h0 : j = np := h0
      rw [hall] at hR
      refine ⟨(j, k, x, y, o, kc, th, n, sec, nx, ny), ?_, hR⟩
      show f_X3_sewField_L80 fc xs ys np now f j k x y o kc th n sec nx ny = _
      unfold f_X3_sewField_L80
      simp (disch := omega) only [zck_t, if_pos]
    · refine ⟨rfl, rfl, ?_⟩
      show qPR col (C ++ []) k x y o kc th n sec
      rw [List.append_nil]
      exact h
  obtain ⟨⟨i, k', x', y', o', kc', th', n', sec', nx, ny⟩, e, r1, r2, hr⟩ := H
  replace r1 : nx = (qLast p0 T).1 := r1
  replace r2 : ny = (qLast p0 T).2 := r2
  subst r1
  subst r2
  exact ⟨i, k', x', y', o', kc', th', n', sec', e, hr⟩
/-- the square of a way -/
def qSq (p q : Int × Int) : Int := (q.1 - p.1) * (q.1 - p.1) + (q.2 - p.2) * (q.2 - p.2)
/-- all commands of a field -/
def qFC (now c b f : Int) (p p0 : Int × Int) (T : List (Int × Int)) : List qC :=
  (if now = -1 ∨ now = c then [] else [(3, 0, 0, -1)]) ++ (if qSq p p0 ≤ b * b then [] else [(2, 0, 0, -1)]) ++ qGo f p p0 ++ qSew f p0 T
theorem qSq_b {p q : Int × Int} (hp : qBox p) (hq : qBox q) : 0 ≤ qSq p q ∧ qSq p q ≤ 20000 := by
  have e1 := qSqr (d := q.1 - p.1) (D := 100) (by omega)
  have e2 := qSqr (d := q.2 - p.2) (D := 100) (by omega)
  unfold qSq
  omega
theorem qFC_len {now c b f : Int} {p p0 : Int × Int} {T : List (Int × Int)} : (qFC now c b f p p0 T).length ≤ T.length + 3 := by
  unfold qFC
  have := qSew_len (f := f) (p := p0) (L := T)
  have h1 : (if now = -1 ∨ now = c then ([] : List qC) else [(3, 0, 0, -1)]).length ≤ 1 := by split <;> decide
  have h2 : (if qSq p p0 ≤ b * b then ([] : List qC) else [(2, 0, 0, -1)]).length ≤ 1 := by split <;> decide
  have h3 : (qGo f p p0).length ≤ 1 := by
    unfold qGo
    split
    · exact Nat.zero_le _
    · exact Nat.le_refl _
  rw [List.length_append, List.length_append, List.length_append]
  omega
theorem pE_sewField {col k x y o kc th xs ys : Int → Int} {C : List qC} {np n now f fc b : Int} {sec : UInt32} {p p0 : Int × Int} {T : List (Int × Int)} (hpt : qPt xs ys np (p0 :: T)) (hnp : np ≤ 2078) (hbox : ∀ q ∈ p0 :: T, qBox q) (h : qPR col C k x y o kc th n sec) (hp : qBox p) (hcol : col f = fc ∧ 0 ≤ fc ∧ fc < 6) (hnow : -1 ≤ now ∧ now < 6) (hb : 0 ≤ b ∧ b ≤ 100) (hn : C.length + (qFC now fc b f p p0 T).length ≤ 16641) :
    ∃ k' x' y' o' kc' th' n' sec', f_X3_sewField fc xs ys np k x y o kc th n sec p.1 p.2 now f b = some (k', x', y', o', kc', th', n', sec', (qLast p0 T).1, (qLast p0 T).2, fc) ∧ qPR col (C ++ qFC now fc b f p p0 T) k' x' y' o' kc' th' n' sec' := by
  obtain ⟨hd, hn1, hall⟩ := qPt_head hpt
  have hp0 : qBox p0 := hbox p0 (List.mem_cons.mpr (Or.inl rfl))
  have hd1 : xs 0 = p0.1 := by rw [← hd]
  have hd2 : ys 0 = p0.2 := by rw [← hd]
  have hsq := qSq_b hp hp0
  have hbb := qSqr (d := b) (D := 100) (by omega)
  have hfx : f_X4_firstX xs np = some p0.1 := by
    unfold f_X4_firstX
    simp (disch := omega) only [zck_t, if_neg, hd1]
  have hfy : f_X4_firstY ys np = some p0.2 := by
    unfold f_X4_firstY
    simp (disch := omega) only [zck_t, if_neg, hd2]
  have h61 : ∀ (C : List qC) (k x y o kc th : Int → Int) (n : Int) (sec : UInt32), qPR col C k x y o kc th n sec → C.length + (qGo f p p0 ++ qSew f p0 T).length ≤ 16641 → ∃ k' x' y' o' kc' th' n' sec', f_X3_sewField_61 fc xs ys np k x y o kc th n sec p.1 p.2 fc f = some (k', x', y', o', kc', th', n', sec', (qLast p0 T).1, (qLast p0 T).2, fc) ∧ qPR col (C ++ (qGo f p p0 ++ qSew f p0 T)) k' x' y' o' kc' th' n' sec' := by
    intro C k x y o kc th n sec h hn
    rw [List.length_append] at hn
    obtain ⟨k1, x1, y1, o1, kc1, th1, n1, sec1, e1, r1⟩ := pE_goTo (nx := p.1) (ny := p.2) (px := p0.1) (py := p0.2) (ms := 0) (f := f) (now := fc) h hp hp0 (Or.inl rfl) hcol (by rw [if_pos rfl]; show C.length + (qGo f p p0).length ≤ 16641; omega)
    rw [if_pos rfl] at r1
    replace r1 : qPR col (C ++ qGo f p p0) k1 x1 y1 o1 kc1 th1 n1 sec1 := r1
    obtain ⟨i, k2, x2, y2, o2, kc2, th2, n2, sec2, e2, r2⟩ := pE_sewLoop (fc := fc) hpt hnp hbox r1 hcol (by rw [List.length_append]; omega)
    refine ⟨k2, x2, y2, o2, kc2, th2, n2, sec2, ?_, by rw [← List.append_assoc]; exact r2⟩
    unfold f_X3_sewField_61
    rw [hfx, hfy]
    simp only [zb1_e]
    rw [e1]
    simp only [zb10_e]
    rw [e2]
    rfl
  have h33 : ∀ (C : List qC) (k x y o kc th : Int → Int) (n : Int) (sec : UInt32) (w : Int), qPR col C k x y o kc th n sec → C.length + ((if qSq p p0 ≤ b * b then [] else [((2, 0, 0, -1) : qC)]) ++ (qGo f p p0 ++ qSew f p0 T)).length ≤ 16641 → ∃ k' x' y' o' kc' th' n' sec', f_X3_sewField_33 fc xs ys np k x y o kc th n sec p.1 p.2 w f b = some (k', x', y', o', kc', th', n', sec', (qLast p0 T).1, (qLast p0 T).2, fc) ∧ qPR col (C ++ ((if qSq p p0 ≤ b * b then [] else [((2, 0, 0, -1) : qC)]) ++ (qGo f p p0 ++ qSew f p0 T))) k' x' y' o' kc' th' n' sec' := by
    intro C k x y o kc th n sec w h hn
    have hsqf : f_X3_squareToFirst xs ys np p.1 p.2 = some (qSq p p0) := by
      unfold f_X3_squareToFirst
      rw [hfx, hfy]
      rfl
    unfold f_X3_sewField_33
    rw [hsqf]
    by_cases q : qSq p p0 ≤ b * b
    · rw [if_pos q, List.nil_append] at hn ⊢
      simp (disch := omega) only [zck_t, if_pos, zb1_e]
      exact h61 C k x y o kc th n sec h hn
    · rw [if_neg q] at hn ⊢
      rw [List.length_append, List.length_singleton] at hn
      have hnl := h.1.1
      obtain ⟨k1, x1, y1, o1, kc1, th1, n1, sec1, e1, r1⟩ := pE_pput (now := fc) (p1 := 2) (p2 := 0) (p3 := 0) (p4 := -1) h (by omega) (by omega) (by omega) (by omega) (fun z => absurd z (by decide))
      obtain ⟨k2, x2, y2, o2, kc2, th2, n2, sec2, e2, r2⟩ := h61 _ _ _ _ _ _ _ _ _ r1 (by rw [List.length_append, List.length_singleton]; omega)
      refine ⟨k2, x2, y2, o2, kc2, th2, n2, sec2, ?_, by rw [← List.append_assoc]; exact r2⟩
      simp (disch := omega) only [zck_t, if_neg, zb1_e]
      rw [e1]
      simp only [zb8_e]
      exact e2
  have hFC : qFC now fc b f p p0 T = (if now = -1 ∨ now = fc then [] else [((3, 0, 0, -1) : qC)]) ++ ((if qSq p p0 ≤ b * b then [] else [((2, 0, 0, -1) : qC)]) ++ (qGo f p p0 ++ qSew f p0 T)) := by
    unfold qFC
    rw [List.append_assoc, List.append_assoc]
  rw [hFC] at hn ⊢
  unfold f_X3_sewField
  by_cases q1 : now = -1
  · rw [if_pos (Or.inl q1), List.nil_append] at hn ⊢
    simp (disch := omega) only [zck_t, if_pos]
    exact h33 C k x y o kc th n sec now h hn
  · by_cases q2 : now = fc
    · rw [if_pos (Or.inr q2), List.nil_append] at hn ⊢
      simp (disch := omega) only [zck_t, if_neg, if_pos]
      exact h33 C k x y o kc th n sec now h hn
    · have hno : ¬ (now = -1 ∨ now = fc) := by omega
      rw [if_neg hno] at hn ⊢
      rw [List.length_append, List.length_singleton] at hn
      have hnl := h.1.1
      obtain ⟨k1, x1, y1, o1, kc1, th1, n1, sec1, e1, r1⟩ := pE_pput (now := now) (p1 := 3) (p2 := 0) (p3 := 0) (p4 := -1) h (by omega) (by omega) (by omega) (by omega) (fun z => absurd z (by decide))
      obtain ⟨k2, x2, y2, o2, kc2, th2, n2, sec2, e2, r2⟩ := h33 _ _ _ _ _ _ _ _ _ now r1 (by rw [List.length_append, List.length_singleton]; omega)
      refine ⟨k2, x2, y2, o2, kc2, th2, n2, sec2, ?_, by rw [← List.append_assoc]; exact r2⟩
      simp (disch := omega) only [zck_t, if_neg]
      rw [e1]
      simp only [zb8_e]
      exact e2
