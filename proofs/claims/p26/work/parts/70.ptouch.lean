/-! ===== the model's touched cells ===== -/
def qEnd : Int × Int → List qC → Int × Int
  | p, [] => p
  | p, m :: C => qEnd (p.1 + m.2.1, p.2 + m.2.2.1) C
def qTm1 (f : Int) (p : Int × Int) (m : qC) : List Int := if m.1 = 0 ∧ m.2.2.2 = f then qSti p.1 p.2 m.2.1 m.2.2.1 else []
def qTm (f : Int) : Int × Int → List qC → List Int
  | _, [] => []
  | p, m :: C => qTm1 f p m ++ qTm f (p.1 + m.2.1, p.2 + m.2.2.1) C
theorem qEnd_app {p : Int × Int} {A B : List qC} : qEnd p (A ++ B) = qEnd (qEnd p A) B := by
  induction A generalizing p with
  | nil => rfl
  | cons m A ih => exact ih
theorem qTm_app {f : Int} {p : Int × Int} {A B : List qC} : qTm f p (A ++ B) = qTm f p A ++ qTm f (qEnd p A) B := by
  induction A generalizing p with
  | nil => rfl
  | cons m A ih =>
    show qTm1 f p m ++ qTm f _ (A ++ B) = qTm1 f p m ++ qTm f _ A ++ qTm f _ B
    rw [ih, List.append_assoc]
    rfl
theorem qG_0 {a b : Int} : qG a b = 0 ↔ a = 0 ∧ b = 0 := by
  have := qG_e a b
  omega
theorem qMv_tm {f b : Int} {p q : Int × Int} : qTm f p (qMv b p q) = (if b = f then qTs p q else []) ∧ qEnd p (qMv b p q) = q := by
  unfold qMv qTs
  by_cases z : qG (q.1 - p.1) (q.2 - p.2) = 0
  · rw [if_pos z, if_pos (Or.inl z)]
    have := qG_0.mp z
    refine ⟨by split <;> rfl, ?_⟩
    show p = q
    exact Prod.ext (by omega) (by omega)
  · rw [if_neg z]
    have hend : qEnd p [((if qG (q.1 - p.1) (q.2 - p.2) ≤ 12 then 0 else 1, q.1 - p.1, q.2 - p.2, b) : qC)] = q := by
      show (p.1 + (q.1 - p.1), p.2 + (q.2 - p.2)) = q
      exact Prod.ext (by show p.1 + (q.1 - p.1) = q.1; omega) (by show p.2 + (q.2 - p.2) = q.2; omega)
    refine ⟨?_, hend⟩
    show qTm1 f p ((if qG (q.1 - p.1) (q.2 - p.2) ≤ 12 then 0 else 1, q.1 - p.1, q.2 - p.2, b) : qC) ++ [] = _
    rw [List.append_nil]
    unfold qTm1
    show (if (if qG (q.1 - p.1) (q.2 - p.2) ≤ 12 then (0 : Int) else 1) = 0 ∧ b = f then qSti p.1 p.2 (q.1 - p.1) (q.2 - p.2) else []) = _
    by_cases z2 : qG (q.1 - p.1) (q.2 - p.2) ≤ 12
    · have hn : ¬ (qG (q.1 - p.1) (q.2 - p.2) = 0 ∨ 12 < qG (q.1 - p.1) (q.2 - p.2)) := by omega
      rw [if_pos z2, if_neg hn]
      by_cases zb : b = f
      · rw [if_pos ⟨rfl, zb⟩, if_pos zb]
      · rw [if_neg (fun w => zb w.2), if_neg zb]
    · have hy : qG (q.1 - p.1) (q.2 - p.2) = 0 ∨ 12 < qG (q.1 - p.1) (q.2 - p.2) := by omega
      rw [if_neg z2, if_pos hy, if_neg (fun w => absurd w.1 (by decide))]
      split <;> rfl
theorem qGo_tm {f b : Int} {p q : Int × Int} : qTm f p (qGo b p q) = [] ∧ qEnd p (qGo b p q) = q := by
  unfold qGo
  by_cases z : qG (q.1 - p.1) (q.2 - p.2) = 0
  · rw [if_pos z]
    have := qG_0.mp z
    refine ⟨rfl, ?_⟩
    show p = q
    exact Prod.ext (by omega) (by omega)
  · rw [if_neg z]
    refine ⟨?_, ?_⟩
    · show qTm1 f p (1, q.1 - p.1, q.2 - p.2, b) ++ [] = []
      unfold qTm1
      rw [if_neg (fun w => absurd w.1 (by show ¬ (1 : Int) = 0; decide))]
      rfl
    · show (p.1 + (q.1 - p.1), p.2 + (q.2 - p.2)) = q
      exact Prod.ext (by show p.1 + (q.1 - p.1) = q.1; omega) (by show p.2 + (q.2 - p.2) = q.2; omega)
theorem qSew_tm {f b : Int} {p : Int × Int} {L : List (Int × Int)} : qTm f p (qSew b p L) = (if b = f then qTo p L else []) ∧ qEnd p (qSew b p L) = qLast p L := by
  induction L generalizing p with
  | nil => exact ⟨by split <;> rfl, rfl⟩
  | cons q L ih =>
    have h := qMv_tm (f := f) (b := b) (p := p) (q := q)
    show qTm f p (qMv b p q ++ qSew b q L) = (if b = f then qTs p q ++ qTo q L else []) ∧ qEnd p (qMv b p q ++ qSew b q L) = qLast q L
    rw [qTm_app, qEnd_app, h.1, h.2, ih.1, ih.2]
    refine ⟨?_, rfl⟩
    split <;> rfl
theorem qK_tm {f k : Int} {p : Int × Int} (hk : ¬ k = 0) : qTm f p [((k, 0, 0, -1) : qC)] = [] ∧ qEnd p [((k, 0, 0, -1) : qC)] = p := by
  refine ⟨?_, ?_⟩
  · show qTm1 f p (k, 0, 0, -1) ++ [] = []
    unfold qTm1
    rw [if_neg (fun w => hk w.1)]
    rfl
  · show (p.1 + 0, p.2 + 0) = p
    exact Prod.ext (by show p.1 + 0 = p.1; omega) (by show p.2 + 0 = p.2; omega)
theorem qFC_tm {f now c bd b : Int} {p p0 : Int × Int} {T : List (Int × Int)} : qTm f p (qFC now c bd b p p0 T) = (if b = f then qTo p0 T else []) ∧ qEnd p (qFC now c bd b p p0 T) = qLast p0 T := by
  have h1 : qTm f p (if now = -1 ∨ now = c then ([] : List qC) else [(3, 0, 0, -1)]) = [] ∧ qEnd p (if now = -1 ∨ now = c then ([] : List qC) else [(3, 0, 0, -1)]) = p := by
    split
    · exact ⟨rfl, rfl⟩
    · exact qK_tm (by decide)
  have h2 : qTm f p (if qSq p p0 ≤ bd * bd then ([] : List qC) else [(2, 0, 0, -1)]) = [] ∧ qEnd p (if qSq p p0 ≤ bd * bd then ([] : List qC) else [(2, 0, 0, -1)]) = p := by
    split
    · exact ⟨rfl, rfl⟩
    · exact qK_tm (by decide)
  have h3 := qGo_tm (f := f) (b := b) (p := p) (q := p0)
  have h4 := qSew_tm (f := f) (b := b) (p := p0) (L := T)
  unfold qFC
  simp only [qTm_app, qEnd_app, h1.1, h1.2, h2.1, h2.2, h3.1, h3.2, h4.1, h4.2, List.nil_append, and_self]
theorem qRun_tm {n : Int} {la co : Int → Int} {P : Int → List (Int × Int)} {bd : Int} (hA : qAll n la co P) (k : Nat) : ∀ {t : qS}, qRun n la co P bd k (qS0 n P) t → qEnd (0, 0) t.2.1 = t.2.2.1 ∧ ∀ f, 0 ≤ f → f < n → qTm f (0, 0) t.2.1 = if ¬ P f = [] ∧ t.1 f = 0 then qToL (P f) else [] := by
  induction k with
  | zero =>
    intro t h
    rw [h]
    refine ⟨rfl, fun f f0 f1 => ?_⟩
    have e : (qS0 n P).1 f = if (0 ≤ f ∧ f < n) ∧ ¬ P f = [] then 1 else 0 := rfl
    show [] = _
    by_cases z : P f = []
    · rw [if_neg (fun w => w.1 z)]
    · rw [if_pos ⟨⟨f0, f1⟩, z⟩] at e
      rw [e, if_neg (fun w => absurd w.2 (by decide))]
  | succ k ih =>
    intro t h
    obtain ⟨u, u1, u2⟩ := h
    obtain ⟨g1, g2⟩ := ih u1
    have hI := (qRun_I hA k qS0_I u1).1
    obtain ⟨b, p0, T, e1, e2, e3⟩ := u2
    subst e3
    refine ⟨?_, fun f f0 f1 => ?_⟩
    · show qEnd (0, 0) (u.2.1 ++ qFC u.2.2.2 (co b) bd b u.2.2.1 p0 T) = qLast p0 T
      rw [qEnd_app, g1]
      exact (qFC_tm (f := 0)).2
    · show qTm f (0, 0) (u.2.1 ++ qFC u.2.2.2 (co b) bd b u.2.2.1 p0 T) = if ¬ P f = [] ∧ zup u.1 b 0 f = 0 then qToL (P f) else []
      rw [qTm_app, g1, g2 f f0 f1, qFC_tm.1]
      by_cases z : b = f
      · subst z
        have hb1 := e1.2.1
        rw [if_neg (fun w => by rw [w.2] at hb1; omega), if_pos rfl, zup_s, if_pos ⟨(hI.2.1 b hb1).2, rfl⟩, e2]
        rfl
      · rw [if_neg z, zup_n (fun w => z w.symm), List.append_nil]
theorem qPlan_tm {n : Int} {la co : Int → Int} {P : Int → List (Int × Int)} {bd : Int} {C : List qC} (hA : qAll n la co P) (h : qPlan n la co P bd C) {f : Int} (f0 : 0 ≤ f) (f1 : f < n) : qTm f (0, 0) C = qToL (P f) := by
  obtain ⟨k, s, r, hw, e⟩ := h
  have hI := (qRun_I hA k qS0_I r).1
  obtain ⟨g1, g2⟩ := qRun_tm hA k r
  rw [e, qTm_app, (qK_tm (by decide)).1, List.append_nil, g2 f f0 f1]
  by_cases z : P f = []
  · rw [if_neg (fun w => w.1 z), z]
    rfl
  · rw [if_pos ⟨z, (hI.1 f).resolve_right (hw f)⟩]
theorem qEnd_b {n : Int} {A : List qC} (h : ∀ m ∈ A, qWf n m) (p : Int × Int) : (-(37 * (A.length : Int)) ≤ (qEnd p A).1 - p.1 ∧ (qEnd p A).1 - p.1 ≤ 37 * (A.length : Int)) ∧ (-(37 * (A.length : Int)) ≤ (qEnd p A).2 - p.2 ∧ (qEnd p A).2 - p.2 ≤ 37 * (A.length : Int)) := by
  induction A generalizing p with
  | nil =>
    show (-(37 * (0 : Int)) ≤ p.1 - p.1 ∧ _) ∧ _
    have e : qEnd p [] = p := rfl
    rw [e]
    simp
  | cons m A ih =>
    obtain ⟨_, w2, w3, _⟩ := h m (List.mem_cons.mpr (Or.inl rfl))
    have := ih (fun x hx => h x (List.mem_cons.mpr (Or.inr hx))) (p.1 + m.2.1, p.2 + m.2.2.1)
    replace this : (-(37 * (A.length : Int)) ≤ (qEnd (p.1 + m.2.1, p.2 + m.2.2.1) A).1 - (p.1 + m.2.1) ∧ (qEnd (p.1 + m.2.1, p.2 + m.2.2.1) A).1 - (p.1 + m.2.1) ≤ 37 * (A.length : Int)) ∧ (-(37 * (A.length : Int)) ≤ (qEnd (p.1 + m.2.1, p.2 + m.2.2.1) A).2 - (p.2 + m.2.2.1) ∧ (qEnd (p.1 + m.2.1, p.2 + m.2.2.1) A).2 - (p.2 + m.2.2.1) ≤ 37 * (A.length : Int)) := this
    have e : qEnd p (m :: A) = qEnd (p.1 + m.2.1, p.2 + m.2.2.1) A := rfl
    rw [e, List.length_cons, show ((A.length + 1 : Nat) : Int) = (A.length : Int) + 1 by omega]
    omega
