/-! ===== the plan is made, or kept ===== -/
abbrev qFds (n : Int) (cl cc : Int → Int) (fx fy : Int → Int → Int) (de le sh pu un : Int → Int) : Prop := ∀ i, 0 ≤ i → i < n → qFd (cl i) (cc i) (fx i) (fy i) (de i) (le i) (sh i) (pu i) (un i)
def qPF (cl cc : Int → Int) (fx fy : Int → Int → Int) (de le sh pu un : Int → Int) : Int → List (Int × Int) := fun i => qPts (cl i) (cc i) (fx i) (fy i) (de i) (le i) (sh i) (pu i) (un i)
abbrev qLC (n : Int) (la co : Int → Int) : Prop := (0 ≤ n ∧ n ≤ 8) ∧ ∀ i, 0 ≤ i → i < n → (0 ≤ la i ∧ la i < 4) ∧ (0 ≤ co i ∧ co i < 6)
theorem qAll_of {n : Int} {la co cl cc de le sh pu un : Int → Int} {fx fy : Int → Int → Int} (h1 : qLC n la co) (h2 : qFds n cl cc fx fy de le sh pu un) : qAll n la co (qPF cl cc fx fy de le sh pu un) :=
  ⟨h1.1, fun i a b => ⟨(h1.2 i a b).1, (h1.2 i a b).2, (qPts_b (h2 i a b)).1, qPts_box (h2 i a b)⟩⟩
/-- what is drawn is kept right -/
abbrev qDr (n : Int) (P : Int → List (Int × Int)) (dr : Int → Int) (xs ys : Int → Int → Int) (sz : Int → Int) : Prop := ∀ i, 0 ≤ i → i < n → (dr i = 0 ∨ dr i = 1) ∧ (dr i = 1 → qPt (xs i) (ys i) (sz i) (P i))
/-- what one needs of the plan -/
def qHas (n : Int) (la co : Int → Int) (P : Int → List (Int × Int)) (bd : Int) (k x y o kc th : Int → Int) (m : Int) (sec : UInt32) : Prop := ∃ C, qPlan n la co P bd C ∧ C.length ≤ 16641 ∧ qPR co C k x y o kc th m sec
theorem pE_draw1 {n i : Int} {P : Int → List (Int × Int)} {cl cc de le sh pu un dr sz cn : Int → Int} {fx fy cr xs ys : Int → Int → Int} (hF : qFds n cl cc fx fy de le sh pu un) (hP : P = qPF cl cc fx fy de le sh pu un) (hD : qDr n P dr xs ys sz) (h0 : 0 ≤ i) (h1 : i < n) :
    ∃ cr' cn' xs' ys' n', f_X0_needlePoints (cl i) (fx i) (fy i) (cr i) (cc i) (cn i) (de i) (le i) (sh i) (pu i) (un i) (dr i) (xs i) (ys i) (sz i) = some (cr', cn', 1, xs', ys', n') ∧ qPt xs' ys' n' (P i) ∧ qDr n P (zup dr i 1) (zup xs i xs') (zup ys i ys') (zup sz i n') := by
  have hF' := hF i h0 h1
  have hD' := hD i h0 h1
  subst hP
  obtain ⟨cr', cn', xs', ys', n', e, hq⟩ := pE_needle (cr := cr i) (cc := cn i) hF' hD'.1 hD'.2 (qPts_b hF').1
  refine ⟨cr', cn', xs', ys', n', e, hq, ?_⟩
  intro j j0 j1
  by_cases q : j = i
  · subst q
    rw [zup_s, zup_s, zup_s, zup_s]
    exact ⟨Or.inr rfl, fun _ => hq⟩
  · rw [zup_n q, zup_n q, zup_n q, zup_n q]
    exact hD j j0 j1
theorem pE_wait {n bd kn m nx ny now : Int} {sec : UInt32} {P : Int → List (Int × Int)} {la co cl cc de le sh pu un dr sz cn w k x y o kc th : Int → Int} {fx fy cr xs ys : Int → Int → Int} (hn : 0 ≤ n ∧ n ≤ 8) (hF : qFds n cl cc fx fy de le sh pu un) (hP : P = qPF cl cc fx fy de le sh pu un) (hD : qDr n P dr xs ys sz) :
    ∃ i w' cr' cn' dr' xs' ys' sz', zlp (fun z => f_X6_refresh_L10 bd kn co la cl fx fy cc de le sh pu un k x y o kc th m sec nx ny now n z.1 z.2.1 z.2.2.1 z.2.2.2.1 z.2.2.2.2.1 z.2.2.2.2.2.1 z.2.2.2.2.2.2.1 z.2.2.2.2.2.2.2) zFU (0, w, cr, cn, dr, xs, ys, sz) = some (i, w', cr', cn', dr', xs', ys', sz') ∧ qDr n P dr' xs' ys' sz' ∧ qPtsR n P xs' ys' sz' ∧ (∀ j, 0 ≤ j → j < 8 → w' j = (qS0 n P).1 j) := by
  have H : ∃ q, zlp (fun z => f_X6_refresh_L10 bd kn co la cl fx fy cc de le sh pu un k x y o kc th m sec nx ny now n z.1 z.2.1 z.2.2.1 z.2.2.2.1 z.2.2.2.2.1 z.2.2.2.2.2.1 z.2.2.2.2.2.2.1 z.2.2.2.2.2.2.2) zFU (0, w, cr, cn, dr, xs, ys, sz) = some q ∧ (qDr n P q.2.2.2.2.1 q.2.2.2.2.2.1 q.2.2.2.2.2.2.1 q.2.2.2.2.2.2.2 ∧ (∀ j, 0 ≤ j → j < 8 → j < n → q.2.2.2.2.1 j = 1) ∧ (∀ j, 0 ≤ j → j < 8 → q.2.1 j = (qS0 n P).1 j)) := by
    refine zlp_for (fun s : Int × (Int → Int) × (Int → Int → Int) × (Int → Int) × (Int → Int) × (Int → Int → Int) × (Int → Int → Int) × (Int → Int) => s.1) (lo := 0) (hi := 8) (fun i q => qDr n P q.2.2.2.2.1 q.2.2.2.2.2.1 q.2.2.2.2.2.2.1 q.2.2.2.2.2.2.2 ∧ (∀ j, 0 ≤ j → j < i → j < n → q.2.2.2.2.1 j = 1) ∧ (∀ j, 0 ≤ j → j < i → q.2.1 j = (qS0 n P).1 j)) _ (by omega) (by omega) ?_ ?_ (0, w, cr, cn, dr, xs, ys, sz) rfl ⟨hD, fun j a b c => by omega, fun j a b => by omega⟩
    · intro s h0 h1 hR
      obtain ⟨i, w, cr, cn, dr, xs, ys, sz⟩ := s
      replace h0 : 0 ≤ i := h0
      replace h1 : i < 8 := h1
      obtain ⟨hD, hd, hw⟩ := hR
      replace hD : qDr n P dr xs ys sz := hD
      replace hd : ∀ j, 0 ≤ j → j < i → j < n → dr j = 1 := hd
      replace hw : ∀ j, 0 ≤ j → j < i → w j = (qS0 n P).1 j := hw
      show ∃ s', f_X6_refresh_L10 bd kn co la cl fx fy cc de le sh pu un k x y o kc th m sec nx ny now n i w cr cn dr xs ys sz = some (.inl s') ∧ s'.1 = i + 1 ∧ qDr n P s'.2.2.2.2.1 s'.2.2.2.2.2.1 s'.2.2.2.2.2.2.1 s'.2.2.2.2.2.2.2 ∧ (∀ j, 0 ≤ j → j < i + 1 → j < n → s'.2.2.2.2.1 j = 1) ∧ (∀ j, 0 ≤ j → j < i + 1 → s'.2.1 j = (qS0 n P).1 j)
      have hnext : ∀ v : Int, v = (qS0 n P).1 i → ∀ j, 0 ≤ j → j < i + 1 → zup w i v j = (qS0 n P).1 j := by
        intro v hv j a b
        by_cases q : j = i
        · rw [q, zup_s, hv]
        · rw [zup_n q]
          exact hw j a (by omega)
      have hs0 : (qS0 n P).1 i = if (0 ≤ i ∧ i < n) ∧ ¬ P i = [] then 1 else 0 := rfl
      unfold f_X6_refresh_L10
      by_cases c1 : i < n
      · obtain ⟨cr', cn', xs', ys', n', e, hq, hD2⟩ := pE_draw1 (cr := cr) (cn := cn) hF hP hD h0 c1
        have hnl := hq.1
        have hd2 : ∀ j, 0 ≤ j → j < i + 1 → j < n → zup dr i 1 j = 1 := by
          intro j a b c
          by_cases q : j = i
          · rw [q, zup_s]
          · rw [zup_n q]
            exact hd j a (by omega) c
        by_cases c2 : n' ≤ 0
        · have hnil : P i = [] := List.eq_nil_of_length_eq_zero (by omega)
          refine ⟨(i + 1, zup w i 0, zup cr i cr', zup cn i cn', zup dr i 1, zup xs i xs', zup ys i ys', zup sz i n'), ?_, rfl, hD2, hd2, hnext 0 (by rw [hs0, if_neg (fun z => z.2 hnil)])⟩
          simp (disch := omega) only [zck_t, if_pos, if_neg, e, zb6_e, zlt, zup_s]
          unfold f_X6_refresh_L10_58 f_X6_refresh_L10_59
          simp (disch := omega) only [zck_t, zlt]
          exact zck_t (Or.inl trivial)
        · have hnil : ¬ P i = [] := fun z => by rw [z] at hnl; exact c2 (by rw [hnl]; exact Int.le_refl _)
          refine ⟨(i + 1, zup w i 1, zup cr i cr', zup cn i cn', zup dr i 1, zup xs i xs', zup ys i ys', zup sz i n'), ?_, rfl, hD2, hd2, hnext 1 (by rw [hs0, if_pos ⟨⟨h0, c1⟩, hnil⟩])⟩
          have := (qPts_b (hF i h0 c1)).1
          have hle : (P i).length ≤ 2078 := by rw [hP]; exact this
          simp (disch := omega) only [zck_t, if_pos, if_neg, e, zb6_e, zlt, zup_s]
          unfold f_X6_refresh_L10_59
          simp (disch := omega) only [zck_t, zlt]
          exact zck_t (Or.inr trivial)
      · refine ⟨(i + 1, zup w i 0, cr, cn, dr, xs, ys, sz), ?_, rfl, hD, fun j a b c => hd j a (by omega) c, hnext 0 (by rw [hs0, if_neg (fun z => c1 z.1.2)])⟩
        simp (disch := omega) only [zck_t, if_neg]
        unfold f_X6_refresh_L10_58 f_X6_refresh_L10_59
        simp (disch := omega) only [zck_t, zlt]
        exact zck_t (Or.inl trivial)
    · intro s h0 hR
      obtain ⟨i, w, cr, cn, dr, xs, ys, sz⟩ := s
      replace h0 : i = 8 := h0
      refine ⟨(i, w, cr, cn, dr, xs, ys, sz), ?_, hR⟩
      show f_X6_refresh_L10 bd kn co la cl fx fy cc de le sh pu un k x y o kc th m sec nx ny now n i w cr cn dr xs ys sz = _
      unfold f_X6_refresh_L10
      simp (disch := omega) only [zck_t, if_pos]
  obtain ⟨⟨i, w', cr', cn', dr', xs', ys', sz'⟩, e, hD', hd, hw⟩ := H
  exact ⟨i, w', cr', cn', dr', xs', ys', sz', e, hD', fun j a b => (hD' j a b).2 (hd j a (by omega) b), hw⟩
theorem pR_refresh {n bd pl m nx ny now : Int} {sec : UInt32} {P : Int → List (Int × Int)} {la co cl cc de le sh pu un dr sz cn w k x y o kc th : Int → Int} {fx fy cr xs ys : Int → Int → Int} (hLC : qLC n la co) (hF : qFds n cl cc fx fy de le sh pu un) (hP : P = qPF cl cc fx fy de le sh pu un) (hD : qDr n P dr xs ys sz) (hb : 0 ≤ bd ∧ bd ≤ 100) (hpl : pl = 0 ∨ (pl = 1 ∧ qHas n la co P bd k x y o kc th m sec)) :
    ∃ (w' : Int → Int) (cr' : Int → Int → Int) (cn' dr' : Int → Int) (xs' ys' : Int → Int → Int) (sz' k' x' y' o' kc' th' : Int → Int) (m' : Int) (sec' : UInt32) (nx' ny' now' : Int), f_X6_refresh w bd pl co la cl fx fy cr cc cn de le sh pu un dr xs ys sz k x y o kc th m sec nx ny now n = some (w', 1, cr', cn', dr', xs', ys', sz', k', x', y', o', kc', th', m', sec', nx', ny', now') ∧ qDr n P dr' xs' ys' sz' ∧ qHas n la co P bd k' x' y' o' kc' th' m' sec' := by
  have hA : qAll n la co P := by rw [hP]; exact qAll_of hLC hF
  rcases hpl with q | ⟨q, hh⟩
  · subst q
    obtain ⟨i, w', cr', cn', dr', xs', ys', sz', e, hD2, hR, hw⟩ := pE_wait (bd := bd) (kn := 0) (m := m) (nx := nx) (ny := ny) (now := now) (sec := sec) (la := la) (co := co) (w := w) (k := k) (x := x) (y := y) (o := o) (kc := kc) (th := th) (cn := cn) (cr := cr) hLC.1 hF hP hD
    obtain ⟨kc0, th0, e0, hpr0⟩ := pE_pbegin (kc := kc) (th := th) (n := m) (nx := nx) (ny := ny) (now := now) (sec := sec) (col := co) (k := k) (x := x) (y := y) (o := o)
    obtain ⟨i2, t, w2, k2, x2, y2, o2, kc2, th2, m2, sec2, e2, hpr2, hlen, hplan⟩ := pE_turns (kn := 0) (cl := cl) (cc := cn') (de := de) (le := le) (sh := sh) (pu := pu) (un := un) (cn := cc) (dr := dr') (fx := fx) (fy := fy) (cr := cr') hA hR hw hb hpr0
    have hnl := hpr2.1.1
    obtain ⟨k3, x3, y3, o3, kc3, th3, m3, sec3, e3, hpr3⟩ := pE_pput (now := t.2.2.2) (p1 := 4) (p2 := 0) (p3 := 0) (p4 := -1) hpr2 (by omega) (by omega) (by omega) (by omega) (fun z => absurd z (by decide))
    refine ⟨w2, cr', cn', dr', xs', ys', sz', k3, x3, y3, o3, kc3, th3, m3, sec3, t.2.2.1.1, t.2.2.1.2, t.2.2.2, ?_, hD2, _, hplan, by rw [List.length_append, List.length_singleton]; omega, hpr3⟩
    unfold f_X6_refresh
    rw [e]
    simp (disch := omega) only [zck_t, if_true, zb8_e]
    unfold f_X6_refresh_66
    rw [e0]
    simp only [zb7_e]
    rw [e2]
    simp only [zb13_e]
    rw [e3]
    rfl
  · subst q
    refine ⟨w, cr, cn, dr, xs, ys, sz, k, x, y, o, kc, th, m, sec, nx, ny, now, ?_, hD, hh⟩
    unfold f_X6_refresh
    simp (disch := omega) only [zck_t, if_neg]
