/-! ===== the order, as the model finds it ===== -/
theorem zlp_rule2 {σ ρ : Type} {body : σ → Option (σ ⊕ ρ)} (I : Nat → σ → Prop) (P : ρ → Prop) (h : ∀ k s, I k s → (∃ s' k', body s = some (.inl s') ∧ k' < k ∧ I k' s') ∨ (∃ r, body s = some (.inr r) ∧ P r)) : ∀ (n k : Nat) (s : σ), I k s → k < n → ∃ r, zlp body n s = some r ∧ P r := by
  intro n
  induction n with
  | zero => intro k s _ h2; exact absurd h2 (Nat.not_lt_zero _)
  | succ n ih =>
    intro k s hI hn
    rcases h k s hI with ⟨s', k', e, hm, hI'⟩ | ⟨r, e, hP⟩
    · obtain ⟨r, e2, hP⟩ := ih k' s' hI' (by omega)
      refine ⟨r, ?_, hP⟩
      unfold zlp
      rw [e]
      exact e2
    · refine ⟨r, ?_, hP⟩
      unfold zlp
      rw [e]
def qCand (la co : Int → Int) (U : Int → Prop) (l c i : Int) : Prop := U i ∧ la i = l ∧ (c = -1 ∨ co i = c)
def qNear (n : Int) (la co D : Int → Int) (U : Int → Prop) (l c r : Int) : Prop := (r = -1 ∧ ∀ i, 0 ≤ i → i < n → ¬ qCand la co U l c i) ∨ ((0 ≤ r ∧ r < n) ∧ qCand la co U l c r ∧ ∀ j, 0 ≤ j → j < n → qCand la co U l c j → ¬ j = r → (j < r → D r < D j) ∧ (r < j → D r ≤ D j))
/-- the model's numbers of all fields -/
abbrev qMoA (n : Int) (la co cl kc : Int → Int) (fx fy : Int → Int → Int) (de le sh pu un : Int → Int) (mcol mla mic mco mcX mcY mde mlo msh mpu mhu : Int → Int) : Prop := ∀ i, 0 ≤ i → i < n → mcol i = co i ∧ mla i = la i ∧ qMo i (cl i) (kc i) (fx i) (fy i) (de i) (le i) (sh i) (pu i) (un i) mco mcX mcY mic mde mlo msh mpu mhu
theorem pE_nearest {n l c np cc rY : Int} {la co cl kc de le sh pu un mcol mla mic mco mcX mcY mde mlo msh mpu mhu sewn pX pY cr : Int → Int} {fx fy : Int → Int → Int} {P : Int → List (Int × Int)} {p : Int × Int} (hA : qAll n la co P) (hF : qFds n cl kc fx fy de le sh pu un) (hP : P = qPF cl kc fx fy de le sh pu un) (hM : qMoA n la co cl kc fx fy de le sh pu un mcol mla mic mco mcX mcY mde mlo msh mpu mhu) (hsw : ∀ i, 0 ≤ i → i < n → sewn i = 0 ∨ sewn i = 1) (hp : qBox p) (hl : 0 ≤ l ∧ l < 4) (hc : -1 ≤ c ∧ c < 6) :
    ∃ r pX' pY' np' cr' cc' rY', f_X7_nearest n mcol mla mic mco mcX mcY mde mlo msh mpu mhu pX pY np cr cc p.1 p.2 sewn rY l c = some (r, pX', pY', np', cr', cc', rY') ∧ qNear n la co (qD P p) (fun i => sewn i = 0 ∧ ¬ P i = []) l c r := by
  have hn := hA.1
  have H : ∃ q, zlp (fun z => f_X7_nearest_L8 n mcol mla mic mco mcX mcY mde mlo msh mpu mhu p.1 p.2 sewn l c z.1 z.2.1 z.2.2.1 z.2.2.2.1 z.2.2.2.2.1 z.2.2.2.2.2.1 z.2.2.2.2.2.2.1 z.2.2.2.2.2.2.2.1 z.2.2.2.2.2.2.2.2) zFU ((-1), 0, 0, pX, pY, np, cr, cc, rY) = some q ∧ (qNear n la co (qD P p) (fun i => sewn i = 0 ∧ ¬ P i = []) l c q.1 ∧ (q.1 = -1 ∨ q.2.1 = qD P p q.1)) := by
    refine zlp_for (fun s : Int × Int × Int × (Int → Int) × (Int → Int) × Int × (Int → Int) × Int × Int => s.2.2.1) (lo := 0) (hi := n) (fun j q => qNear j la co (qD P p) (fun i => sewn i = 0 ∧ ¬ P i = []) l c q.1 ∧ (q.1 = -1 ∨ q.2.1 = qD P p q.1)) _ hn.1 (by omega) ?_ ?_ ((-1), 0, 0, pX, pY, np, cr, cc, rY) rfl ⟨Or.inl ⟨rfl, fun i a b => by omega⟩, Or.inl rfl⟩
    · intro s h0 h1 hR
      obtain ⟨r, d, j, pX, pY, np, cr, cc, rY⟩ := s
      replace h0 : 0 ≤ j := h0
      replace h1 : j < n := h1
      obtain ⟨hN, hd⟩ := hR
      replace hN : qNear j la co (qD P p) (fun i => sewn i = 0 ∧ ¬ P i = []) l c r := hN
      replace hd : r = -1 ∨ d = qD P p r := hd
      obtain ⟨m1, m2, m3⟩ := hM j h0 h1
      obtain ⟨a1, a2, a3, a4⟩ := hA.2 j h0 h1
      have hswj := hsw j h0 h1
      show ∃ s', f_X7_nearest_L8 n mcol mla mic mco mcX mcY mde mlo msh mpu mhu p.1 p.2 sewn l c r d j pX pY np cr cc rY = some (.inl s') ∧ s'.2.2.1 = j + 1 ∧ (qNear (j + 1) la co (qD P p) (fun i => sewn i = 0 ∧ ¬ P i = []) l c s'.1 ∧ (s'.1 = -1 ∨ s'.2.1 = qD P p s'.1))
      have hskip : ¬ qCand la co (fun i => sewn i = 0 ∧ ¬ P i = []) l c j → qNear (j + 1) la co (qD P p) (fun i => sewn i = 0 ∧ ¬ P i = []) l c r := by
        intro hj
        rcases hN with ⟨q1, q2⟩ | ⟨q1, q2, q3⟩
        · refine Or.inl ⟨q1, fun i a b => ?_⟩
          by_cases z : i = j
          · rw [z]; exact hj
          · exact q2 i a (by omega)
        · refine Or.inr ⟨⟨q1.1, by omega⟩, q2, fun i a b e f => ?_⟩
          by_cases z : i = j
          · rw [z] at e; exact absurd e hj
          · exact q3 i a (by omega) e f
      have h54 : sewn j = 0 → la j = l → (c = -1 ∨ co j = c) → ∃ s', f_X7_nearest_L8_54 n mcol mla mic mco mcX mcY mde mlo msh mpu mhu pX pY np cr cc p.1 p.2 sewn rY l c r d j = some (.inl s') ∧ s'.2.2.1 = j + 1 ∧ (qNear (j + 1) la co (qD P p) (fun i => sewn i = 0 ∧ ¬ P i = []) l c s'.1 ∧ (s'.1 = -1 ∨ s'.2.1 = qD P p s'.1)) := by
        intro s1 s2 s3
        have hF' := hF j h0 h1
        have hPj : P j = qPts (cl j) (kc j) (fx j) (fy j) (de j) (le j) (sh j) (pu j) (un j) := by rw [hP]; rfl
        have hb := (qPts_b hF').1
        obtain ⟨pX', pY', np', cr', cc', rY', e, hq⟩ := pE_finds (xs := pX) (ys := pY) (n := np) (cr := cr) (cc := cc) (rY := rY) ⟨h0, by omega⟩ hF' m3 (by omega)
        rw [← hPj] at hq hb
        have hnl := hq.1
        unfold f_X7_nearest_L8_54
        rw [e]
        simp only [zb6_e]
        cases hL : P j with
        | nil =>
          rw [hL] at hnl
          replace hnl : np' = 0 := hnl
          refine ⟨(r, d, j + 1, pX', pY', np', cr', cc', rY'), ?_, rfl, hskip (fun z => z.1.2 hL), hd⟩
          simp (disch := omega) only [zck_t, if_pos]
        | cons p0 T =>
          have hne : ¬ P j = [] := by rw [hL]; exact List.cons_ne_nil _ _
          have hD : qD P p j = qSq p p0 := by unfold qD; rw [hL]; rfl
          rw [hL] at hq hb a4
          obtain ⟨hd0, hn1, _⟩ := qPt_head hq
          have hst : f_X7_squareTo p.1 p.2 (pX' 0) (pY' 0) = some (qD P p j) := by
            rw [show pX' 0 = p0.1 by rw [← hd0], show pY' 0 = p0.2 by rw [← hd0], hD]
            rfl
          have hdj := qD_b hA hp h0 h1
          have hcj : qCand la co (fun i => sewn i = 0 ∧ ¬ P i = []) l c j := ⟨⟨s1, hne⟩, s2, s3⟩
          have hnl2 : np' ≤ 2078 := by rw [hL] at hnl; omega
          have htake : (r = -1 ∨ qD P p j < qD P p r) → qNear (j + 1) la co (qD P p) (fun i => sewn i = 0 ∧ ¬ P i = []) l c j := by
            intro hz
            refine Or.inr ⟨⟨h0, by omega⟩, hcj, fun i a b e' f => ⟨fun lt => ?_, fun gt => by omega⟩⟩
            rcases hN with ⟨q1, q2⟩ | ⟨q1, q2, q3⟩
            · exact absurd e' (q2 i a lt)
            · by_cases z : i = r
              · rw [z]; omega
              · have := q3 i a lt e' z
                omega
          unfold f_X7_nearest_L8_97 f_X7_nearest_L8_102 f_X7_nearest_L8_115
          rcases hN with ⟨q1, q2⟩ | ⟨q1, q2, q3⟩
          · refine ⟨(j, qD P p j, j + 1, pX', pY', np', cr', cc', rY'), ?_, rfl, htake (Or.inl q1), Or.inr rfl⟩
            simp (disch := omega) only [zck_t, if_pos, if_neg, hst, zb1_e]
          · have hdr := qD_b (i := r) hA hp q1.1 (by omega)
            have hd' : d = qD P p r := by omega
            by_cases z : d ≤ qD P p j
            · refine ⟨(r, d, j + 1, pX', pY', np', cr', cc', rY'), ?_, rfl, ?_, hd⟩
              · simp (disch := omega) only [zck_t, if_pos, if_neg, hst, zb1_e, if_true]
              · refine Or.inr ⟨⟨q1.1, by show r < j + 1; omega⟩, q2, fun i a b e' f => ?_⟩
                by_cases w : i = j
                · subst w
                  refine ⟨fun lt => ?_, fun _ => ?_⟩
                  · replace lt : i < r := lt
                    omega
                  · show qD P p r ≤ qD P p i
                    omega
                · exact q3 i a (by omega) e' f
            · refine ⟨(j, qD P p j, j + 1, pX', pY', np', cr', cc', rY'), ?_, rfl, htake (Or.inr (by omega)), Or.inr rfl⟩
              simp (disch := omega) only [zck_t, if_neg, hst, zb1_e]
      have hno : ¬ qCand la co (fun i => sewn i = 0 ∧ ¬ P i = []) l c j → ∃ s' : Int × Int × Int × (Int → Int) × (Int → Int) × Int × (Int → Int) × Int × Int, (some (.inl (r, d, j + 1, pX, pY, np, cr, cc, rY)) : Option ((Int × Int × Int × (Int → Int) × (Int → Int) × Int × (Int → Int) × Int × Int) ⊕ (Int × Int × Int × (Int → Int) × (Int → Int) × Int × (Int → Int) × Int × Int))) = some (.inl s') ∧ s'.2.2.1 = j + 1 ∧ (qNear (j + 1) la co (qD P p) (fun i => sewn i = 0 ∧ ¬ P i = []) l c s'.1 ∧ (s'.1 = -1 ∨ s'.2.1 = qD P p s'.1)) :=
        fun hj => ⟨_, rfl, rfl, hskip hj, hd⟩
      unfold f_X7_nearest_L8
      rw [m1, m2]
      by_cases s1 : sewn j = 0
      · by_cases s2 : la j = l
        · by_cases s3 : c = -1
          · simp (disch := omega) only [zck_t, if_pos, if_neg]
            exact h54 s1 s2 (Or.inl s3)
          · by_cases s4 : co j = c
            · simp (disch := omega) only [zck_t, if_pos, if_neg]
              exact h54 s1 s2 (Or.inr s4)
            · simp (disch := omega) only [zck_t, if_pos, if_neg]
              exact hno (fun z => z.2.2.elim s3 s4)
        · simp (disch := omega) only [zck_t, if_pos, if_neg]
          exact hno (fun z => s2 z.2.1)
      · have s1' : sewn j = 1 := hswj.resolve_left s1
        have hz : zR (sewn j) := by rw [s1']; decide
        rw [zck_t (by omega), if_neg (by omega), zck_t ⟨h0, by omega⟩, zck_t hz, if_neg s1]
        exact hno (fun z => s1 z.1.1)
    · intro s h0 hR
      obtain ⟨r, d, j, pX, pY, np, cr, cc, rY⟩ := s
      replace h0 : j = n := h0
      refine ⟨(r, d, j, pX, pY, np, cr, cc, rY), ?_, hR⟩
      show f_X7_nearest_L8 n mcol mla mic mco mcX mcY mde mlo msh mpu mhu p.1 p.2 sewn l c r d j pX pY np cr cc rY = _
      unfold f_X7_nearest_L8
      simp (disch := omega) only [zck_t, if_pos]
  obtain ⟨⟨r, d, j, pX', pY', np', cr', cc', rY'⟩, e, hN, _⟩ := H
  refine ⟨r, pX', pY', np', cr', cc', rY', ?_, hN⟩
  unfold f_X7_nearest
  rw [e]
  rfl
