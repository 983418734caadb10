/-! ===== the model's touched cells ===== -/
def qEnd : Int × Int → List qC → Int × Int
  | p, [] => p
  | p, m :: C => qEnd (p.1 + m.2.1, p.2 + m.2.2.1) C
def qTm1 (f : Int) (p : Int × Int) (m : qC) : List Int := if m.1 = 0 ∧ m.2.2.2 = f then qSti p.1 p.2 m.2.1 m.2.2.1 else []
def qTm (f : Int) : Int × Int → List qC → List Int
  | _, [] => []
  | p, m :: C => qTm1 f p m ++ qTm f (p.1 + m.2.1, p.2 + m.2.2.1) C
theorem qEnd_app {p : Int × Int} {A B : List qC} : qEnd p (A ++ B) = qEnd (qEnd p A) B := by
  induction A generalizing p with
  | nil => rfl
  | cons m A ih => exact ih
theorem qTm_app {f : Int} {p : Int × Int} {A B : List qC} : qTm f p (A ++ B) = qTm f p A ++ qTm f (qEnd p A) B := by
  induction A generalizing p with
  | nil => rfl
  | cons m A ih =>
    show qTm1 f p m ++ qTm f _ (A ++ B) = qTm1 f p m ++ qTm f _ A ++ qTm f _ B
    rw [ih, List.append_assoc]
    rfl
theorem qG_0 {a b : Int} : qG a b = 0 ↔ a = 0 ∧ b = 0 := by
  have := qG_e a b
  omega
theorem qMv_tm {f b : Int} {p q : Int × Int} : qTm f p (qMv b p q) = (if b = f then qTs p q else []) ∧ qEnd p (qMv b p q) = q := by
  unfold qMv qTs
  by_cases z : qG (q.1 - p.1) (q.2 - p.2) = 0
  · rw [if_pos z, if_pos (Or.inl z)]
    have := qG_0.mp z
    refine ⟨by split <;> rfl, ?_⟩
    show p = q
    exact Prod.ext (by omega) (by omega)
  · rw [if_neg z]
    have hend : qEnd p [((if qG (q.1 - p.1) (q.2 - p.2) ≤ 12 then 0 else 1, q.1 - p.1, q.2 - p.2, b) : qC)] = q := by
      show (p.1 + (q.1 - p.1), p.2 + (q.2 - p.2)) = q
      exact Prod.ext (by show p.1 + (q.1 - p.1) = q.1; omega) (by show p.2 + (q.2 - p.2) = q.2; omega)
    refine ⟨?_, hend⟩
    show qTm1 f p ((if qG (q.1 - p.1) (q.2 - p.2) ≤ 12 then 0 else 1, q.1 - p.1, q.2 - p.2, b) : qC) ++ [] = _
    rw [List.append_nil]
    unfold qTm1
    show (if (if qG (q.1 - p.1) (q.2 - p.2) ≤ 12 then (0 : Int) else 1) = 0 ∧ b = f then qSti p.1 p.2 (q.1 - p.1) (q.2 - p.2) else []) = _
    by_cases z2 : qG (q.1 - p.1) (q.2 - p.2) ≤ 12
    · have hn : ¬ (qG (q.1 - p.1) (q.2 - p.2) = 0 ∨ 12 < qG (q.1 - p.1) (q.2 - p.2)) := by omega
      rw [if_pos z2, if_neg hn]
      by_cases zb : b = f
      · rw [if_pos ⟨rfl, zb⟩, if_pos zb]
      · rw [if_neg (fun w => zb w.2), if_neg zb]
    · have hy : qG (q.1 - p.1) (q.2 - p.2) = 0 ∨ 12 < qG (q.1 - p.1) (q.2 - p.2) := by omega
      rw [if_neg z2, if_pos hy, if_neg (fun w => absurd w.1 (by decide))]
      split <;> rfl
theorem qGo_tm {f b : Int} {p q : Int × Int} : qTm f p (qGo b p q) = [] ∧ qEnd p (qGo b p q) = q := by
  unfold qGo
  by_cases z : qG (q.1 - p.1) (q.2 - p.2) = 0
  · rw [if_pos z]
    have := qG_0.mp z
    refine ⟨rfl, ?_⟩
    show p = q
    exact Prod.ext (by omega) (by omega)
  · rw [if_neg z]
    refine ⟨?_, ?_⟩
    · show qTm1 f p (1, q.1 - p.1, q.2 - p.2, b) ++ [] = []
      unfold qTm1
      rw [if_neg (fun w => absurd w.1 (by show ¬ (1 : Int) = 0; decide))]
      rfl
    · show (p.1 + (q.1 - p.1), p.2 + (q.2 - p.2)) = q
      exact Prod.ext (by show p.1 + (q.1 - p.1) = q.1; omega) (by show p.2 + (q.2 - p.2) = q.2; omega)
theorem qSew_tm {f b : Int} {p : Int × Int} {L : List (Int × Int)} : qTm f p (qSew b p L) = (if b = f then qTo p L else []) ∧ qEnd p (qSew b p L) = qLast p L := by
  induction L generalizing p with
  | nil => exact ⟨by split <;> rfl, rfl⟩
  | cons q L ih =>
    have h := qMv_tm (f := f) (b := b) (p := p) (q := q)
    show qTm f p (qMv b p q ++ qSew b q L) = (if b = f then qTs p q ++ qTo q L else []) ∧ qEnd p (qMv b p q ++ qSew b q L) = qLast q L
    rw [qTm_app, qEnd_app, h.1, h.2, ih.1, ih.2]
    refine ⟨?_, rfl⟩
    split <;> rfl
theorem qK_tm {f k : Int} {p : Int × Int} (hk : ¬ k = 0) : qTm f p [((k, 0, 0, -1) : qC)] = [] ∧ qEnd p [((k, 0, 0, -1) : qC)] = p := by
  refine ⟨?_, ?_⟩
  · show qTm1 f p (k, 0, 0, -1) ++ [] = []
    unfold qTm1
    rw [if_neg (fun w => hk w.1)]
    rfl
  · show (p.1 + 0, p.2 + 0) = p
    exact Prod.ext (by show p.1 + 0 = p.1; omega) (by show p.2 + 0 = p.2; omega)
theorem qFC_tm {f now c bd b : Int} {p p0 : Int × Int} {T : List (Int × Int)} : qTm f p (qFC now c bd b p p0 T) = (if b = f then qTo p0 T else []) ∧ qEnd p (qFC now c bd b p p0 T) = qLast p0 T := by
  have h1 : qTm f p (if now = -1 ∨ now = c then ([] : List qC) else [(3, 0, 0, -1)]) = [] ∧ qEnd p (if now = -1 ∨ now = c then ([] : List qC) else [(3, 0, 0, -1)]) = p := by
    split
    · exact ⟨rfl, rfl⟩
    · exact qK_tm (by decide)
  have h2 : qTm f p (if qSq p p0 ≤ bd * bd then ([] : List qC) else [(2, 0, 0, -1)]) = [] ∧ qEnd p (if qSq p p0 ≤ bd * bd then ([] : List qC) else [(2, 0, 0, -1)]) = p := by
    split
    · exact ⟨rfl, rfl⟩
    · exact qK_tm (by decide)
  have h3 := qGo_tm (f := f) (b := b) (p := p) (q := p0)
  have h4 := qSew_tm (f := f) (b := b) (p := p0) (L := T)
  unfold qFC
  simp only [qTm_app, qEnd_app, h1.1, h1.2, h2.1, h2.2, h3.1, h3.2, h4.1, h4.2, List.nil_append, and_self]
theorem qRun_tm {n : Int} {la co : Int → Int} {P : Int → List (Int × Int)} {bd : Int} (hA : qAll n la co P) (k : Nat) : ∀ {t : qS}, qRun n la co P bd k (qS0 n P) t → qEnd (0, 0) t.2.1 = t.2.2.1 ∧ ∀ f, 0 ≤ f → f < n → qTm f (0, 0) t.2.1 = if ¬ P f = [] ∧ t.1 f = 0 then qToL (P f) else [] := by
  induction k with
  | zero =>
    intro t h
    rw [h]
    refine ⟨rfl, fun f f0 f1 => ?_⟩
    have e : (qS0 n P).1 f = if (0 ≤ f ∧ f < n) ∧ ¬ P f = [] then 1 else 0 := rfl
    show [] = _
    by_cases z : P f = []
    · rw [if_neg (fun w => w.1 z)]
    · rw [if_pos ⟨⟨f0, f1⟩, z⟩] at e
      rw [e, if_neg (fun w => absurd w.2 (by decide))]
  | succ k ih =>
    intro t h
    obtain ⟨u, u1, u2⟩ := h
    obtain ⟨g1, g2⟩ := ih u1
    have hI := (qRun_I hA k qS0_I u1).1
    obtain ⟨b, p0, T, e1, e2, e3⟩ := u2
    subst e3
    refine ⟨?_, fun f f0 f1 => ?_⟩
    · show qEnd (0, 0) (u.2.1 ++ qFC u.2.2.2 (co b) bd b u.2.2.1 p0 T) = qLast p0 T
      rw [qEnd_app, g1]
      exact (qFC_tm (f := 0)).2
    · show qTm f (0, 0) (u.2.1 ++ qFC u.2.2.2 (co b) bd b u.2.2.1 p0 T) = if ¬ P f = [] ∧ zup u.1 b 0 f = 0 then qToL (P f) else []
      rw [qTm_app, g1, g2 f f0 f1, qFC_tm.1]
      by_cases z : b = f
      · subst z
        have hb1 := e1.2.1
        rw [if_neg (fun w => by rw [w.2] at hb1; omega), if_pos rfl, zup_s, if_pos ⟨(hI.2.1 b hb1).2, rfl⟩, e2]
        rfl
      · rw [if_neg z, zup_n (fun w => z w.symm), List.append_nil]
theorem qPlan_tm {n : Int} {la co : Int → Int} {P : Int → List (Int × Int)} {bd : Int} {C : List qC} (hA : qAll n la co P) (h : qPlan n la co P bd C) {f : Int} (f0 : 0 ≤ f) (f1 : f < n) : qTm f (0, 0) C = qToL (P f) := by
  obtain ⟨k, s, r, hw, e⟩ := h
  have hI := (qRun_I hA k qS0_I r).1
  obtain ⟨g1, g2⟩ := qRun_tm hA k r
  rw [e, qTm_app, (qK_tm (by decide)).1, List.append_nil, g2 f f0 f1]
  by_cases z : P f = []
  · rw [if_neg (fun w => w.1 z), z]
    rfl
  · rw [if_pos ⟨z, (hI.1 f).resolve_right (hw f)⟩]
theorem qEnd_b {n : Int} {A : List qC} (h : ∀ m ∈ A, qWf n m) (p : Int × Int) : (-(37 * (A.length : Int)) ≤ (qEnd p A).1 - p.1 ∧ (qEnd p A).1 - p.1 ≤ 37 * (A.length : Int)) ∧ (-(37 * (A.length : Int)) ≤ (qEnd p A).2 - p.2 ∧ (qEnd p A).2 - p.2 ≤ 37 * (A.length : Int)) := by
  induction A generalizing p with
  | nil =>
    show (-(37 * (0 : Int)) ≤ p.1 - p.1 ∧ _) ∧ _
    have e : qEnd p [] = p := rfl
    rw [e]
    simp
  | cons m A ih =>
    obtain ⟨_, w2, w3, _⟩ := h m (List.mem_cons.mpr (Or.inl rfl))
    have := ih (fun x hx => h x (List.mem_cons.mpr (Or.inr hx))) (p.1 + m.2.1, p.2 + m.2.2.1)
    replace this : (-(37 * (A.length : Int)) ≤ (qEnd (p.1 + m.2.1, p.2 + m.2.2.1) A).1 - (p.1 + m.2.1) ∧ (qEnd (p.1 + m.2.1, p.2 + m.2.2.1) A).1 - (p.1 + m.2.1) ≤ 37 * (A.length : Int)) ∧ (-(37 * (A.length : Int)) ≤ (qEnd (p.1 + m.2.1, p.2 + m.2.2.1) A).2 - (p.2 + m.2.2.1) ∧ (qEnd (p.1 + m.2.1, p.2 + m.2.2.1) A).2 - (p.2 + m.2.2.1) ≤ 37 * (A.length : Int)) := this
    have e : qEnd p (m :: A) = qEnd (p.1 + m.2.1, p.2 + m.2.2.1) A := rfl
    rw [e, List.length_cons, show ((A.length + 1 : Nat) : Int) = (A.length : Int) + 1 by omega]
    omega
theorem pE_mclear {n bd np mcc kn nc mnx mny rY f : Int} {mcol mla mic mco mcX mcY mde mlo msh mpu mhu sewn pX pY mcr mk mx my mo : Int → Int} {C : List qC} {T : Int → Int} : ∃ j T', zlp (fun z => f_X7_touches_L6 n mcol mla mic mco mcX mcY mde mlo msh mpu mhu bd pX pY np mcr mcc kn nc mk mx my mo mnx mny sewn rY f z.1 z.2) zFU (0, T) = some (j, T') ∧ qCells T' [] := by
  have H1 : ∃ q, zlp (fun z => f_X7_touches_L6 n mcol mla mic mco mcX mcY mde mlo msh mpu mhu bd pX pY np mcr mcc kn nc mk mx my mo mnx mny sewn rY f z.1 z.2) zFU (0, T) = some q ∧ (∀ i, 0 ≤ i → i < 1024 → q.2 i = 0) := by
    refine zlp_for (fun s : Int × (Int → Int) => s.1) (lo := 0) (hi := 1024) (fun j s => ∀ i, 0 ≤ i → i < j → s.2 i = 0) _ (by omega) (by omega) ?_ ?_ (0, T) rfl (fun i a b => by omega)
    · intro s h0 h1 hR
      obtain ⟨j, a⟩ := s
      replace h0 : 0 ≤ j := h0
      replace h1 : j < 1024 := h1
      refine ⟨(j + 1, zup a j 0), ?_, rfl, ?_⟩
      · show f_X7_touches_L6 n mcol mla mic mco mcX mcY mde mlo msh mpu mhu bd pX pY np mcr mcc kn nc mk mx my mo mnx mny sewn rY f j a = _
        unfold f_X7_touches_L6
        simp (disch := omega) only [zck_t, if_neg, zlt]
      · intro i i0 i1
        show zup a j 0 i = 0
        by_cases q : i = j
        · rw [q, zup_s]
        · rw [zup_n q]
          exact hR i i0 (by show i < j; replace i1 : i < j + 1 := i1; omega)
    · intro s h0 hR
      obtain ⟨j, a⟩ := s
      replace h0 : j = 1024 := h0
      refine ⟨(j, a), ?_, hR⟩
      show f_X7_touches_L6 n mcol mla mic mco mcX mcY mde mlo msh mpu mhu bd pX pY np mcr mcc kn nc mk mx my mo mnx mny sewn rY f j a = _
      unfold f_X7_touches_L6
      simp (disch := omega) only [zck_t, if_pos]
  obtain ⟨⟨j, T'⟩, e, hz⟩ := H1
  replace hz : ∀ i, 0 ≤ i → i < 1024 → T' i = 0 := hz
  exact ⟨j, T', e, fun v h0 h1 => by rw [hz v h0 h1]; rfl⟩
theorem pE_mcount {n bd np mcc kn nc mnx mny rY f : Int} {mcol mla mic mco mcX mcY mde mlo msh mpu mhu sewn pX pY mcr mk mx my mo : Int → Int} {C : List qC} {T : Int → Int} {S : List Int} (h : qCells T S) : ∃ j, zlp (fun z => f_X7_touches_L174 n mcol mla mic mco mcX mcY mde mlo msh mpu mhu bd pX pY np mcr mcc kn nc mk mx my mo mnx mny sewn T rY z.1 z.2) zFU (0, 0) = some (qCt T 1024, j) := by
  have H1 : ∃ q, zlp (fun z => f_X7_touches_L174 n mcol mla mic mco mcX mcY mde mlo msh mpu mhu bd pX pY np mcr mcc kn nc mk mx my mo mnx mny sewn T rY z.1 z.2) zFU (0, 0) = some q ∧ (q.1 = qCt T 1024) := by
    refine zlp_for (fun s : Int × Int => s.2) (lo := 0) (hi := 1024) (fun j s => s.1 = qCt T j) _ (by omega) (by omega) ?_ ?_ (0, 0) rfl qCt_0.symm
    · intro s h0 h1 hR
      obtain ⟨a, j⟩ := s
      replace h0 : 0 ≤ j := h0
      replace h1 : j < 1024 := h1
      replace hR : a = qCt T j := hR
      have hv := h j h0 h1
      have h01 := qInd_01 (S := S) (v := j)
      refine ⟨(a + T j, j + 1), ?_, rfl, by show a + T j = qCt T (j + 1); rw [qCt_s h0, hR]⟩
      show f_X7_touches_L174 n mcol mla mic mco mcX mcY mde mlo msh mpu mhu bd pX pY np mcr mcc kn nc mk mx my mo mnx mny sewn T rY a j = _
      unfold f_X7_touches_L174
      by_cases z : T j = 0
      · rw [z]
        simp (disch := omega) only [zck_t, if_neg, if_true, zlt]
      · rw [show T j = 1 by omega]
        simp (disch := omega) only [zck_t, if_neg, zlt]
    · intro s h0 hR
      obtain ⟨a, j⟩ := s
      replace h0 : j = 1024 := h0
      replace hR : a = qCt T 1024 := hR
      refine ⟨(a, j), ?_, hR⟩
      show f_X7_touches_L174 n mcol mla mic mco mcX mcY mde mlo msh mpu mhu bd pX pY np mcr mcc kn nc mk mx my mo mnx mny sewn T rY a j = _
      unfold f_X7_touches_L174
      simp (disch := omega) only [zck_t, if_pos]
  obtain ⟨⟨a, j⟩, e, hz⟩ := H1
  replace hz : a = qCt T 1024 := hz
  rw [hz] at e
  exact ⟨j, e⟩
theorem pE_mtouch {n bd np mcc kn nc mnx mny rY f : Int} {mcol mla mic mco mcX mcY mde mlo msh mpu mhu sewn pX pY mcr mk mx my mo : Int → Int} {C : List qC} {T : Int → Int} {nn : Int} (hn : 0 ≤ n ∧ n ≤ 8) (hf : 0 ≤ f ∧ f < n) (hcm : qCm mk mx my mo nc C) (hl : C.length ≤ 16641) (hwf : ∀ m ∈ C, qWf n m) (h : qCells T []) : ∃ x y j T', zlp (fun z => f_X7_touches_L33 n mcol mla mic mco mcX mcY mde mlo msh mpu mhu bd pX pY np mcr mcc kn nc mk mx my mo mnx mny sewn rY f z.1 z.2.1 z.2.2.1 z.2.2.2) zFU (0, 0, 0, T) = some (x, y, j, T') ∧ qCells T' (qTm f (0, 0) C) := by
  have hnl := hcm.1
  have hn0 := qRow_nn hcm
  have H : ∃ q, zlp (fun z => f_X7_touches_L33 n mcol mla mic mco mcX mcY mde mlo msh mpu mhu bd pX pY np mcr mcc kn nc mk mx my mo mnx mny sewn rY f z.1 z.2.1 z.2.2.1 z.2.2.2) zFU (0, 0, 0, T) = some q ∧ qCells q.2.2.2 (qTm f (0, 0) C) := by
    refine zlp_for (fun s : Int × Int × Int × (Int → Int) => s.2.2.1) (lo := 0) (hi := nc) (fun j s => (s.1, s.2.1) = qEnd (0, 0) (C.take j.toNat) ∧ qCells s.2.2.2 (qTm f (0, 0) (C.take j.toNat))) _ hn0 (by omega) ?_ ?_ (0, 0, 0, T) rfl ⟨rfl, h⟩
    · intro s j0 j1 hR
      obtain ⟨x, y, j, T⟩ := s
      replace j0 : 0 ≤ j := j0
      replace j1 : j < nc := j1
      obtain ⟨hR1, hR2⟩ := hR
      replace hR1 : (x, y) = qEnd (0, 0) (C.take j.toNat) := hR1
      replace hR2 : qCells T (qTm f (0, 0) (C.take j.toNat)) := hR2
      obtain ⟨f1, f2, f3, f4, f5, f6⟩ := hwf _ (qRow_mem hcm (i := j) j0 j1)
      replace f1 : 0 ≤ mk j ∧ mk j ≤ 4 := f1
      replace f2 : -37 ≤ mx j ∧ mx j ≤ 37 := f2
      replace f3 : -37 ≤ my j ∧ my j ≤ 37 := f3
      replace f5 : mk j ≤ 1 → (0 ≤ mo j ∧ mo j < n) ∧ ¬ qG (mx j) (my j) = 0 := f5
      replace f6 : 2 ≤ mk j → mx j = 0 ∧ my j = 0 ∧ mo j = -1 := f6
      have hmo : -1 ≤ mo j ∧ mo j < 8 := by
        rcases Int.lt_or_le 1 (mk j) with z | z
        · have := (f6 (by omega)).2.2
          omega
        · have := (f5 z).1
          omega
      have heb := qEnd_b (A := C.take j.toNat) (fun m hm => hwf m (List.mem_of_mem_take hm)) (0, 0)
      have hlt : (C.take j.toNat).length ≤ 16641 := by rw [List.length_take]; omega
      rw [← hR1] at heb
      replace heb : (-(37 * ((C.take j.toNat).length : Int)) ≤ x - 0 ∧ x - 0 ≤ 37 * ((C.take j.toNat).length : Int)) ∧ (-(37 * ((C.take j.toNat).length : Int)) ≤ y - 0 ∧ y - 0 ≤ 37 * ((C.take j.toNat).length : Int)) := heb
      have htk := qRow_take hcm j0 j1
      have hend : (x + mx j, y + my j) = qEnd (0, 0) (C.take (j + 1).toNat) := by
        rw [show (j + 1).toNat = j.toNat + 1 by omega, htk, qEnd_app, ← hR1]
        rfl
      have htm : qTm f (0, 0) (C.take (j + 1).toNat) = qTm f (0, 0) (C.take j.toNat) ++ qTm1 f (x, y) (mk j, mx j, my j, mo j) := by
        rw [show (j + 1).toNat = j.toNat + 1 by omega, htk, qTm_app, ← hR1]
        show _ ++ (qTm1 f (x, y) (mk j, mx j, my j, mo j) ++ []) = _
        rw [List.append_nil]
      have h142 : ∀ T', f_X7_touches_L33_142 n mcol mla mic mco mcX mcY mde mlo msh mpu mhu bd pX pY np mcr mcc kn nc mk mx my mo mnx mny sewn T' rY f x y j = some (.inl (x + mx j, y + my j, j + 1, T')) := by
        intro T'
        unfold f_X7_touches_L33_142
        simp (disch := omega) only [zck_t, zlt]
      show ∃ s', f_X7_touches_L33 n mcol mla mic mco mcX mcY mde mlo msh mpu mhu bd pX pY np mcr mcc kn nc mk mx my mo mnx mny sewn rY f x y j T = some (.inl s') ∧ s'.2.2.1 = j + 1 ∧ ((s'.1, s'.2.1) = qEnd (0, 0) (C.take (j + 1).toNat) ∧ qCells s'.2.2.2 (qTm f (0, 0) (C.take (j + 1).toNat)))
      rw [htm]
      have hq1 : qTm1 f (x, y) (mk j, mx j, my j, mo j) = if mk j = 0 ∧ mo j = f then qSti x y (mx j) (my j) else [] := rfl
      unfold f_X7_touches_L33
      by_cases z : mk j = 0 ∧ mo j = f
      · rw [if_pos z] at hq1
        have hg := qG_e (mx j) (my j)
        have hgn := (f5 (by omega)).2
        have H2 : ∃ q, zlp (fun z => f_X7_touches_L91 n mcol mla mic mco mcX mcY mde mlo msh mpu mhu bd pX pY np mcr mcc kn nc mk mx my mo mnx mny sewn rY f x y j (qG (mx j) (my j)) z.1 z.2) zFU (0, T) = some q ∧ qCells q.2 (qTm f (0, 0) (C.take j.toNat) ++ qSti x y (mx j) (my j)) := by
          refine zlp_for (fun s : Int × (Int → Int) => s.1) (lo := 0) (hi := qG (mx j) (my j) + 1) (fun i s => qCells s.2 (qTm f (0, 0) (C.take j.toNat) ++ qFM (qStJ x y (mx j) (my j)) 0 i)) _ (by omega) (by omega) ?_ ?_ (0, T) rfl ?_
          · intro s i0 i1 hR
            obtain ⟨i, T⟩ := s
            replace i0 : 0 ≤ i := i0
            replace i1 : i < qG (mx j) (my j) + 1 := i1
            replace hR : qCells T (qTm f (0, 0) (C.take j.toNat) ++ qFM (qStJ x y (mx j) (my j)) 0 i) := hR
            have e1 := pE_downP (d := mx j) (j := i) (n := qG (mx j) (my j)) (by omega) (by omega) (by omega)
            have e2 := pE_downP (d := my j) (j := i) (n := qG (mx j) (my j)) (by omega) (by omega) (by omega)
            have d1 := qDj_b (d := mx j) (j := i) (n := qG (mx j) (my j)) (by omega) (by omega) (by omega)
            have d2 := qDj_b (d := my j) (j := i) (n := qG (mx j) (my j)) (by omega) (by omega) (by omega)
            obtain ⟨T', et, hc⟩ := pE_marks (x := x + mx j * i / qG (mx j) (my j)) (y := y + my j * i / qG (mx j) (my j)) hR (by omega) (by omega)
            refine ⟨(i + 1, T'), ?_, rfl, ?_⟩
            · show f_X7_touches_L91 n mcol mla mic mco mcX mcY mde mlo msh mpu mhu bd pX pY np mcr mcc kn nc mk mx my mo mnx mny sewn rY f x y j (qG (mx j) (my j)) i T = _
              unfold f_X7_touches_L91
              simp (disch := omega) only [zck_t, if_neg, e1, e2, zb1_e, et]
            · show qCells T' (qTm f (0, 0) (C.take j.toNat) ++ qFM (qStJ x y (mx j) (my j)) 0 (i + 1))
              rw [qFM_succ i0, ← List.append_assoc]
              exact hc
          · intro s i0 hR
            obtain ⟨i, T⟩ := s
            replace i0 : i = qG (mx j) (my j) + 1 := i0
            refine ⟨(i, T), ?_, hR⟩
            show f_X7_touches_L91 n mcol mla mic mco mcX mcY mde mlo msh mpu mhu bd pX pY np mcr mcc kn nc mk mx my mo mnx mny sewn rY f x y j (qG (mx j) (my j)) i T = _
            unfold f_X7_touches_L91
            simp (disch := omega) only [zck_t, if_pos]
          · show qCells T (_ ++ qFM _ 0 0)
            rw [qFM_nil (Int.le_refl _), List.append_nil]
            exact hR2
        obtain ⟨⟨i, T'⟩, ei, hc⟩ := H2
        have s1 : f_X7_size (mx j) = some ((mx j).natAbs : Int) := pE_size (by omega)
        have s2 : f_X7_size (my j) = some ((my j).natAbs : Int) := pE_size (by omega)
        have s3 : f_X7_greater ((mx j).natAbs : Int) ((my j).natAbs : Int) = some (qG (mx j) (my j)) := pE_greater (by omega) (by omega)
        refine ⟨(x + mx j, y + my j, j + 1, T'), ?_, rfl, hend, by rw [hq1]; exact hc⟩
        have z1 := z.1
        have z2 := z.2
        simp (disch := omega) only [zck_t, if_pos, if_neg, s1, s2, s3, zb1_e]
        rw [ei]
        exact h142 T'
      · rw [if_neg z] at hq1
        refine ⟨(x + mx j, y + my j, j + 1, T), ?_, rfl, hend, by rw [hq1, List.append_nil]; exact hR2⟩
        by_cases z1 : mk j = 0
        · have z2 : ¬ mo j = f := fun w => z ⟨z1, w⟩
          simp (disch := omega) only [zck_t, if_pos, if_neg]
          exact h142 T
        · simp (disch := omega) only [zck_t, if_neg]
          exact h142 T
    · intro s j0 hR
      obtain ⟨x, y, j, T⟩ := s
      replace j0 : j = nc := j0
      have hR2 := hR.2
      rw [qRow_all hcm] at hR2
      refine ⟨(x, y, j, T), ?_, hR2⟩
      show f_X7_touches_L33 n mcol mla mic mco mcX mcY mde mlo msh mpu mhu bd pX pY np mcr mcc kn nc mk mx my mo mnx mny sewn rY f x y j T = _
      unfold f_X7_touches_L33
      simp (disch := omega) only [zck_t, if_pos]
  obtain ⟨⟨x, y, j, T'⟩, e, hq⟩ := H
  exact ⟨x, y, j, T', e, hq⟩
