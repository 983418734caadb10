/-! ===== the model's plan ===== -/
theorem qNear_A {n : Int} {la co D W : Int → Int} {U : Int → Prop} {l now r : Int} (hall : ∀ i, W i = 1 → l ≤ la i) (hW : ∀ i, 0 ≤ i → i < n → (W i = 1 ↔ U i)) (h : qNear n la co D U l (-1) r) (hr : ¬ r = -1) (hno : ∀ i, 0 ≤ i → i < n → U i → la i = l → ¬ co i = now) : qBest n la co D W now r := by
  rcases h with ⟨q, _⟩ | ⟨h1, h2, h3⟩
  · exact absurd q hr
  · obtain ⟨u1, u2, _⟩ := h2
    refine ⟨h1, (hW r h1.1 h1.2).mpr u1, fun j j0 j1 jw jr => ?_⟩
    have hju := (hW j j0 j1).mp jw
    have hjl := hall j jw
    have hn1 := hno r h1.1 h1.2 u1 u2
    by_cases z : la j = l
    · have hn2 := hno j j0 j1 hju z
      have hd := h3 j j0 j1 ⟨hju, z, Or.inl rfl⟩ jr
      unfold qAhead
      refine ⟨fun lt => ?_, fun gt => ?_⟩
      · have := hd.1 lt
        omega
      · have := hd.2 gt
        omega
    · unfold qAhead
      omega
theorem qNear_B {n : Int} {la co D W : Int → Int} {U : Int → Prop} {l now r : Int} (hall : ∀ i, W i = 1 → l ≤ la i) (hW : ∀ i, 0 ≤ i → i < n → (W i = 1 ↔ U i)) (h : qNear n la co D U l now r) (hr : ¬ r = -1) (hnow : ¬ now = -1) : qBest n la co D W now r := by
  rcases h with ⟨q, _⟩ | ⟨h1, h2, h3⟩
  · exact absurd q hr
  · obtain ⟨u1, u2, u3⟩ := h2
    have u3' : co r = now := u3.resolve_left hnow
    refine ⟨h1, (hW r h1.1 h1.2).mpr u1, fun j j0 j1 jw jr => ?_⟩
    have hju := (hW j j0 j1).mp jw
    have hjl := hall j jw
    by_cases z : la j = l
    · by_cases z2 : co j = now
      · have hd := h3 j j0 j1 ⟨hju, z, Or.inr z2⟩ jr
        unfold qAhead
        refine ⟨fun lt => ?_, fun gt => ?_⟩
        · have := hd.1 lt
          omega
        · have := hd.2 gt
          omega
      · unfold qAhead
        omega
    · unfold qAhead
      omega
/-- the model's plan under way -/
def qOK (n : Int) (la co : Int → Int) (P : Int → List (Int × Int)) (bd l now nc : Int) (k x y o : Int → Int) (nx ny : Int) (sewn : Int → Int) (t : qS) : Prop := (∃ m, qRun n la co P bd m (qS0 n P) t) ∧ (∀ i, t.1 i = 1 → l ≤ la i) ∧ now = t.2.2.2 ∧ qCm k x y o nc t.2.1 ∧ nx = t.2.2.1.1 ∧ ny = t.2.2.1.2 ∧ (∀ i, 0 ≤ i → i < n → sewn i = 0 ∨ sewn i = 1) ∧ (∀ i, 0 ≤ i → i < n → (t.1 i = 1 ↔ (sewn i = 0 ∧ ¬ P i = [])))
theorem pE_inner {n l bd kn np cc rY now nc nx ny nxt : Int} {la co cl kc de le sh pu un mcol mla mic mco mcX mcY mde mlo msh mpu mhu sewn pX pY cr k x y o : Int → Int} {fx fy : Int → Int → Int} {P : Int → List (Int × Int)} {t : qS} (hA : qAll n la co P) (hF : qFds n cl kc fx fy de le sh pu un) (hP : P = qPF cl kc fx fy de le sh pu un) (hM : qMoA n la co cl kc fx fy de le sh pu un mcol mla mic mco mcX mcY mde mlo msh mpu mhu) (hl : 0 ≤ l ∧ l < 4) (hb : 0 ≤ bd ∧ bd ≤ 100) (hOK : qOK n la co P bd l now nc k x y o nx ny sewn t) (hN : qNear n la co (qD P t.2.2.1) (fun i => sewn i = 0 ∧ ¬ P i = []) l (-1) nxt) :
    ∃ now' i pX' pY' np' cr' cc' nc' k' x' y' o' nx' ny' sewn' rY', zlp (fun z => f_X7_reckons_L67 n mcol mla mic mco mcX mcY mde mlo msh mpu mhu bd kn l z.1 z.2.1 z.2.2.1 z.2.2.2.1 z.2.2.2.2.1 z.2.2.2.2.2.1 z.2.2.2.2.2.2.1 z.2.2.2.2.2.2.2.1 z.2.2.2.2.2.2.2.2.1 z.2.2.2.2.2.2.2.2.2.1 z.2.2.2.2.2.2.2.2.2.2.1 z.2.2.2.2.2.2.2.2.2.2.2.1 z.2.2.2.2.2.2.2.2.2.2.2.2.1 z.2.2.2.2.2.2.2.2.2.2.2.2.2.1 z.2.2.2.2.2.2.2.2.2.2.2.2.2.2.1 z.2.2.2.2.2.2.2.2.2.2.2.2.2.2.2) zFU (now, nxt, pX, pY, np, cr, cc, nc, k, x, y, o, nx, ny, sewn, rY) = some (now', i, pX', pY', np', cr', cc', nc', k', x', y', o', nx', ny', sewn', rY') ∧ ∃ t', qOK n la co P bd (l + 1) now' nc' k' x' y' o' nx' ny' sewn' t' := by
  have hn := hA.1
  have H : ∃ q, zlp (fun z => f_X7_reckons_L67 n mcol mla mic mco mcX mcY mde mlo msh mpu mhu bd kn l z.1 z.2.1 z.2.2.1 z.2.2.2.1 z.2.2.2.2.1 z.2.2.2.2.2.1 z.2.2.2.2.2.2.1 z.2.2.2.2.2.2.2.1 z.2.2.2.2.2.2.2.2.1 z.2.2.2.2.2.2.2.2.2.1 z.2.2.2.2.2.2.2.2.2.2.1 z.2.2.2.2.2.2.2.2.2.2.2.1 z.2.2.2.2.2.2.2.2.2.2.2.2.1 z.2.2.2.2.2.2.2.2.2.2.2.2.2.1 z.2.2.2.2.2.2.2.2.2.2.2.2.2.2.1 z.2.2.2.2.2.2.2.2.2.2.2.2.2.2.2) zFU (now, nxt, pX, pY, np, cr, cc, nc, k, x, y, o, nx, ny, sewn, rY) = some q ∧ (∃ t', qOK n la co P bd (l + 1) q.1 q.2.2.2.2.2.2.2.1 q.2.2.2.2.2.2.2.2.1 q.2.2.2.2.2.2.2.2.2.1 q.2.2.2.2.2.2.2.2.2.2.1 q.2.2.2.2.2.2.2.2.2.2.2.1 q.2.2.2.2.2.2.2.2.2.2.2.2.1 q.2.2.2.2.2.2.2.2.2.2.2.2.2.1 q.2.2.2.2.2.2.2.2.2.2.2.2.2.2.1 t') := by
    refine zlp_rule2 (fun m (q : Int × Int × (Int → Int) × (Int → Int) × Int × (Int → Int) × Int × Int × (Int → Int) × (Int → Int) × (Int → Int) × (Int → Int) × Int × Int × (Int → Int) × Int) => ∃ t', qOK n la co P bd l q.1 q.2.2.2.2.2.2.2.1 q.2.2.2.2.2.2.2.2.1 q.2.2.2.2.2.2.2.2.2.1 q.2.2.2.2.2.2.2.2.2.2.1 q.2.2.2.2.2.2.2.2.2.2.2.1 q.2.2.2.2.2.2.2.2.2.2.2.2.1 q.2.2.2.2.2.2.2.2.2.2.2.2.2.1 q.2.2.2.2.2.2.2.2.2.2.2.2.2.2.1 t' ∧ qNear n la co (qD P t'.2.2.1) (fun i => q.2.2.2.2.2.2.2.2.2.2.2.2.2.2.1 i = 0 ∧ ¬ P i = []) l (-1) q.2.1 ∧ m = (qCW t'.1).toNat) _ ?_ zFU (qCW t.1).toNat _ ⟨t, hOK, hN, rfl⟩ ?_
    · intro m s hI
      obtain ⟨now, nxt, pX, pY, np, cr, cc, nc, k, x, y, o, nx, ny, sewn, rY⟩ := s
      obtain ⟨t, hOK, hN, hm⟩ := hI
      replace hOK : qOK n la co P bd l now nc k x y o nx ny sewn t := hOK
      replace hN : qNear n la co (qD P t.2.2.1) (fun i => sewn i = 0 ∧ ¬ P i = []) l (-1) nxt := hN
      obtain ⟨⟨rm, hrun⟩, hall, e1, hcm, e2, e3, hsw, hW⟩ := id hOK
      subst e1
      subst e2
      subst e3
      have hI := (qRun_I hA rm qS0_I hrun).1
      have hp := hI.2.2.2.1
      have hnow := qSI_now hI
      have hU : ∀ i, 0 ≤ i → i < n → (t.1 i = 1 ↔ (fun i => sewn i = 0 ∧ ¬ P i = []) i) := hW
      by_cases z : nxt = -1
      · right
        subst z
        refine ⟨(t.2.2.2, -1, pX, pY, np, cr, cc, nc, k, x, y, o, t.2.2.1.1, t.2.2.1.2, sewn, rY), ?_, t, ⟨rm, hrun⟩, ?_, rfl, hcm, rfl, rfl, hsw, hW⟩
        · show f_X7_reckons_L67 n mcol mla mic mco mcX mcY mde mlo msh mpu mhu bd kn l t.2.2.2 (-1) pX pY np cr cc nc k x y o t.2.2.1.1 t.2.2.1.2 sewn rY = _
          unfold f_X7_reckons_L67
          simp (disch := omega) only [zck_t, if_true]
        · intro i hi
          have h1 := hall i hi
          have h2 := (hI.2.1 i hi).1
          rcases hN with ⟨_, q⟩ | ⟨q, _⟩
          · have := q i h2.1 h2.2
            by_cases w : la i = l
            · exact absurd ⟨(hW i h2.1 h2.2).mp hi, w, Or.inl rfl⟩ this
            · omega
          · omega
      · left
        have hnx : 0 ≤ nxt ∧ nxt < n := by
          rcases hN with ⟨q, _⟩ | ⟨q, _⟩
          · exact absurd q z
          · exact q
        -- one turn, with the one that is taken
        have hgo : ∀ (b : Int) (pX pY : Int → Int) (np : Int) (cr : Int → Int) (cc rY : Int), qBest n la co (qD P t.2.2.1) t.1 t.2.2.2 b → ∃ s' k', f_X7_reckons_L67_101 n mcol mla mic mco mcX mcY mde mlo msh mpu mhu bd pX pY np cr cc kn nc k x y o t.2.2.1.1 t.2.2.1.2 sewn rY t.2.2.2 l b = some (.inl s') ∧ k' < m ∧ ∃ t', qOK n la co P bd l s'.1 s'.2.2.2.2.2.2.2.1 s'.2.2.2.2.2.2.2.2.1 s'.2.2.2.2.2.2.2.2.2.1 s'.2.2.2.2.2.2.2.2.2.2.1 s'.2.2.2.2.2.2.2.2.2.2.2.1 s'.2.2.2.2.2.2.2.2.2.2.2.2.1 s'.2.2.2.2.2.2.2.2.2.2.2.2.2.1 s'.2.2.2.2.2.2.2.2.2.2.2.2.2.2.1 t' ∧ qNear n la co (qD P t'.2.2.1) (fun i => s'.2.2.2.2.2.2.2.2.2.2.2.2.2.2.1 i = 0 ∧ ¬ P i = []) l (-1) s'.2.1 ∧ k' = (qCW t'.1).toNat := by
          intro b pX pY np cr cc rY hB
          obtain ⟨⟨b0, b1⟩, b2, b3⟩ := id hB
          obtain ⟨m1, m2, m3⟩ := hM b b0 b1
          obtain ⟨a1, a2, a3, a4⟩ := hA.2 b b0 b1
          have hne := (hI.2.1 b b2).2
          cases hL : P b with
          | nil => exact absurd hL hne
          | cons p0 T =>
            have hturn : qTurn n la co P bd t (zup t.1 b 0, t.2.1 ++ qFC t.2.2.2 (co b) bd b t.2.2.1 p0 T, qLast p0 T, co b) := ⟨b, p0, T, hB, hL, rfl⟩
            have htI := qTurn_I hA hI hturn
            have hlen := htI.2.2
            replace hlen : t.2.1.length + ((t.2.1 ++ qFC t.2.2.2 (co b) bd b t.2.2.1 p0 T).length - t.2.1.length) ≤ 16640 := hlen
            rw [List.length_append] at hlen
            have hcw := htI.2.1
            replace hcw : qCW (zup t.1 b 0) = qCW t.1 - 1 := hcw
            have h01 : ∀ i, zup t.1 b 0 i = 0 ∨ zup t.1 b 0 i = 1 := htI.1.1
            have hcn : 0 ≤ qCW (zup t.1 b 0) := by
              have x0 := h01 0
              have x1 := h01 1
              have x2 := h01 2
              have x3 := h01 3
              have x4 := h01 4
              have x5 := h01 5
              have x6 := h01 6
              have x7 := h01 7
              unfold qCW
              omega
            have hF' := hF b b0 b1
            have hPb : qPts (cl b) (kc b) (fx b) (fy b) (de b) (le b) (sh b) (pu b) (un b) = p0 :: T := by rw [← hL, hP]; rfl
            obtain ⟨pX1, pY1, np1, cr1, cc1, nc1, k1, x1, y1, o1, rY1, es, hcm1⟩ := pE_msews (col := mcol) (xs := pX) (ys := pY) (np := np) (cr := cr) (cc := cc) (rY := rY) (now := t.2.2.2) (b := bd) ⟨b0, by omega⟩ hF' m3 hPb hcm hp (by rw [m1]; exact a2) hnow hb (by rw [m1]; omega)
            rw [m1] at hcm1
            have hsw1 : ∀ i, 0 ≤ i → i < n → zup sewn b 1 i = 0 ∨ zup sewn b 1 i = 1 := by
              intro i i0 i1
              by_cases q : i = b
              · rw [q, zup_s]; exact Or.inr rfl
              · rw [zup_n q]; exact hsw i i0 i1
            have hW1 : ∀ i, 0 ≤ i → i < n → (zup t.1 b 0 i = 1 ↔ (zup sewn b 1 i = 0 ∧ ¬ P i = [])) := by
              intro i i0 i1
              by_cases q : i = b
              · rw [q, zup_s, zup_s]
                constructor
                · intro w; omega
                · intro w; have := w.1; omega
              · rw [zup_n q, zup_n q]
                exact hW i i0 i1
            obtain ⟨r, pX2, pY2, np2, cr2, cc2, rY2, en, hN2⟩ := pE_nearest (sewn := zup sewn b 1) (pX := pX1) (pY := pY1) (np := np1) (cr := cr1) (cc := cc1) (rY := rY1) (p := qLast p0 T) (l := l) (c := -1) hA hF hP hM hsw1 htI.1.2.2.2.1 hl (by omega)
            refine ⟨(co b, r, pX2, pY2, np2, cr2, cc2, nc1, k1, x1, y1, o1, (qLast p0 T).1, (qLast p0 T).2, zup sewn b 1, rY2), (qCW (zup t.1 b 0)).toNat, ?_, by omega, (zup t.1 b 0, t.2.1 ++ qFC t.2.2.2 (co b) bd b t.2.2.1 p0 T, qLast p0 T, co b), ⟨⟨rm + 1, t, hrun, hturn⟩, ?_, rfl, hcm1, rfl, rfl, hsw1, hW1⟩, hN2, rfl⟩
            · unfold f_X7_reckons_L67_101
              rw [es]
              simp (disch := omega) only [zb13_e, zck_t, zlt]
              rw [en, m1]
              rfl
            · intro i hi
              replace hi : zup t.1 b 0 i = 1 := hi
              by_cases q : i = b
              · rw [q, zup_s] at hi; omega
              · rw [zup_n q] at hi
                exact hall i hi
        show ∃ s' k', f_X7_reckons_L67 n mcol mla mic mco mcX mcY mde mlo msh mpu mhu bd kn l t.2.2.2 nxt pX pY np cr cc nc k x y o t.2.2.1.1 t.2.2.1.2 sewn rY = some (.inl s') ∧ k' < m ∧ _
        unfold f_X7_reckons_L67
        by_cases c1 : t.2.2.2 = -1
        · have hB := qNear_A (now := t.2.2.2) hall hU hN z (fun i i0 i1 _ _ => by
            have := (hA.2 i i0 i1).2.1
            omega)
          obtain ⟨s', k', e, hk, hh⟩ := hgo nxt pX pY np cr cc rY hB
          refine ⟨s', k', ?_, hk, hh⟩
          unfold f_X7_reckons_L67_87
          simp (disch := omega) only [zck_t, if_pos, if_neg, if_true]
          exact e
        · obtain ⟨r2, pX2, pY2, np2, cr2, cc2, rY2, en, hN2⟩ := pE_nearest (sewn := sewn) (pX := pX) (pY := pY) (np := np) (cr := cr) (cc := cc) (rY := rY) (p := t.2.2.1) (l := l) (c := t.2.2.2) hA hF hP hM hsw hp hl hnow
          by_cases c2 : r2 = -1
          · have hB := qNear_A (now := t.2.2.2) hall hU hN z (fun i i0 i1 u v w => by
              rcases hN2 with ⟨_, q⟩ | ⟨q, _⟩
              · exact q i i0 i1 ⟨u, v, Or.inr w⟩
              · omega)
            obtain ⟨s', k', e, hk, hh⟩ := hgo nxt pX2 pY2 np2 cr2 cc2 rY2 hB
            refine ⟨s', k', ?_, hk, hh⟩
            unfold f_X7_reckons_L67_87
            simp (disch := omega) only [zck_t, if_pos, if_neg, en, zb7_e]
            exact e
          · have hB := qNear_B hall hU hN2 c2 c1
            have hr2 := hB.1
            obtain ⟨s', k', e, hk, hh⟩ := hgo r2 pX2 pY2 np2 cr2 cc2 rY2 hB
            refine ⟨s', k', ?_, hk, hh⟩
            unfold f_X7_reckons_L67_87
            simp (disch := omega) only [zck_t, if_neg, en, zb7_e]
            exact e
    · have hI := hOK.1
      obtain ⟨rm, hrun⟩ := hI
      have hI := (qRun_I hA rm qS0_I hrun).1
      have h3 := hI.2.2.1
      have : (1000000000 : Nat) ≤ zFU := zFU_ge rfl
      omega
  obtain ⟨⟨now', i, pX', pY', np', cr', cc', nc', k', x', y', o', nx', ny', sewn', rY'⟩, e, t', hh⟩ := H
  exact ⟨now', i, pX', pY', np', cr', cc', nc', k', x', y', o', nx', ny', sewn', rY', e, t', hh⟩
