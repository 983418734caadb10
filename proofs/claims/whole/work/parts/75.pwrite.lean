/-! ===== write ===== -/
theorem pE_wr {a : Int → Int} {n fm k x y : Int} {L : List Int} (hfm : fm = 0 ∨ fm = 1) (h : qRow a n L) (hn : L.length + (qBy fm k x y).length ≤ 69000) : ∃ a' n', f_X7_writes fm n a k x y = some (n', a') ∧ qRow a' n' (L ++ qBy fm k x y) := by
  have hnl := h.1
  have hbl := qBy_len (k := k) (x := x) (y := y) hfm
  unfold f_X7_writes
  rcases hfm with q | q
  · subst q
    rw [if_pos rfl] at hbl
    have r1 := qRow_put h (32 * k + x + 16)
    have r2 := qRow_put r1 (y + 16)
    rw [show qBy 0 k x y = [32 * k + x + 16] ++ [y + 16] from rfl, ← List.append_assoc]
    refine ⟨zup (zup a n (32 * k + x + 16)) (n + 1) (y + 16), n + 2, ?_, by rw [show n + 2 = n + 1 + 1 by omega]; exact r2⟩
    simp (disch := omega) only [zck_t, if_true, zlt]
  · subst q
    rw [if_neg (by decide)] at hbl
    have r1 := qRow_put h k
    have r2 := qRow_put r1 (x + 128)
    have r3 := qRow_put r2 (y + 128)
    rw [show qBy 1 k x y = [k] ++ [x + 128] ++ [y + 128] from rfl, ← List.append_assoc, ← List.append_assoc]
    refine ⟨zup (zup (zup a n k) (n + 1) (x + 128)) (n + 2) (y + 128), n + 3, ?_, by rw [show n + 3 = n + 1 + 1 + 1 by omega, show n + 2 = n + 1 + 1 by omega]; exact r3⟩
    simp (disch := omega) only [zck_t, if_neg, zlt]
theorem qPl_0 {d j n : Int} : qPl 0 d j n = d * j / n := by
  unfold qPl
  rw [Int.sub_zero, Int.zero_add]
theorem pE_mwrite {n bd np mcc kn nc mnx mny hf thr rY fm nn : Int} {mcol mla mic mco mcX mcY mde mlo msh mpu mhu pX pY mcr mk mx my mo sewn a : Int → Int} {C : List qC} (hfm : fm = 0 ∨ fm = 1) (hcm : qCm mk mx my mo nc C) (hl : C.length ≤ 16641) (hwf : ∀ m ∈ C, qWf nn m) (hpc : qSum qPc C ≤ 23001) :
    ∃ j n' a', zlp (fun z => f_X7_write_L49 n mcol mla mic mco mcX mcY mde mlo msh mpu mhu bd pX pY np mcr mcc kn nc mk mx my mo mnx mny sewn hf fm thr rY (qLim fm) z.1 z.2.1 z.2.2) zFU (0, 0, a) = some (j, n', a') ∧ qRow a' n' (qFile fm C) ∧ (qFile fm C).length ≤ 49923 := by
  have hn0 := qRow_nn hcm
  have hnl := hcm.1
  have hfl := qFile_len hfm hwf
  have hflen : (qFile fm C).length ≤ 49923 := by
    rcases hfm with q | q
    · rw [if_pos q] at hfl; omega
    · rw [if_neg (by omega)] at hfl; omega
  have hlim := qLim_01 hfm
  have H : ∃ q, zlp (fun z => f_X7_write_L49 n mcol mla mic mco mcX mcY mde mlo msh mpu mhu bd pX pY np mcr mcc kn nc mk mx my mo mnx mny sewn hf fm thr rY (qLim fm) z.1 z.2.1 z.2.2) zFU (0, 0, a) = some q ∧ qRow q.2.2 q.2.1 (qFile fm C) := by
    refine zlp_for (fun s : Int × Int × (Int → Int) => s.1) (lo := 0) (hi := nc) (fun j s => qRow s.2.2 s.2.1 (qFile fm (C.take j.toNat))) _ hn0 (by omega) ?_ ?_ (0, 0, a) rfl (qRow_nil _)
    · intro s j0 j1 hR
      obtain ⟨j, n1, a⟩ := s
      replace j0 : 0 ≤ j := j0
      replace j1 : j < nc := j1
      replace hR : qRow a n1 (qFile fm (C.take j.toNat)) := hR
      have hm := hwf _ (qRow_mem hcm (i := j) j0 j1)
      obtain ⟨b1, b2, b3, b4⟩ := qPn_b hfm hm
      obtain ⟨h1, h2, h3, h4, h5, h6⟩ := hm
      replace h1 : 0 ≤ mk j ∧ mk j ≤ 4 := h1
      replace h2 : -37 ≤ mx j ∧ mx j ≤ 37 := h2
      replace h3 : -37 ≤ my j ∧ my j ≤ 37 := h3
      replace h4 : mk j = 0 → qG (mx j) (my j) ≤ 12 := h4
      replace h5 : mk j ≤ 1 → _ ∧ ¬ qG (mx j) (my j) = 0 := h5
      replace h6 : 2 ≤ mk j → mx j = 0 ∧ my j = 0 ∧ _ := h6
      have hg := qG_e (mx j) (my j)
      have hst := pE_steps (a := mx j) (b := my j) (l := qLim fm) (by omega) (by omega) (by omega)
      have hpn : qPn fm (mk j, mx j, my j, mo j) = if mk j = 1 then (qG (mx j) (my j) + qLim fm - 1) / qLim fm else 1 := rfl
      have hmax : qPn fm (mk j, mx j, my j, mo j) = if 1 ≤ (qG (mx j) (my j) + qLim fm - 1) / qLim fm then (qG (mx j) (my j) + qLim fm - 1) / qLim fm else 1 := by
        rw [hpn]
        rcases hlim with ⟨_, q2⟩ | ⟨_, q2⟩ <;> rw [q2]
        · by_cases z : mk j = 1
          · have := (h5 (by omega)).2
            rw [if_pos z, if_pos (by omega)]
          · rw [if_neg z]
            by_cases z0 : mk j = 0
            · have := h4 z0
              split <;> omega
            · have := h6 (by omega)
              split <;> omega
        · by_cases z : mk j = 1
          · have := (h5 (by omega)).2
            rw [if_pos z, if_pos (by omega)]
          · rw [if_neg z]
            by_cases z0 : mk j = 0
            · have := h4 z0
              split <;> omega
            · have := h6 (by omega)
              split <;> omega
      have hgb : 0 ≤ (qG (mx j) (my j) + qLim fm - 1) / qLim fm ∧ (qG (mx j) (my j) + qLim fm - 1) / qLim fm ≤ 4 := by
        rcases hlim with ⟨_, q2⟩ | ⟨_, q2⟩ <;> rw [q2] <;> omega
      generalize hN : qPn fm (mk j, mx j, my j, mo j) = N at *
      have htk := qRow_take hcm j0 j1
      have hfi : qFile fm (C.take (j.toNat + 1)) = qFile fm (C.take j.toNat) ++ qPb fm (mk j, mx j, my j, mo j) := by
        rw [htk, qFile_app]
        show _ ++ (qPb fm (mk j, mx j, my j, mo j) ++ []) = _
        rw [List.append_nil]
      have hle : (qFile fm (C.take (j.toNat + 1))).length ≤ (qFile fm C).length := by
        have e := List.take_append_drop (j.toNat + 1) C
        have e2 : qFile fm C = qFile fm (C.take (j.toNat + 1)) ++ qFile fm (C.drop (j.toNat + 1)) := by rw [← qFile_app, e]
        rw [e2, List.length_append]
        omega
      rw [hfi, List.length_append] at hle
      have hpb : qPb fm (mk j, mx j, my j, mo j) = qFM (qPj fm (mk j, mx j, my j, mo j)) 1 (N + 1) := by
        unfold qPb
        rw [hN]
      have hpj : ∀ i, qPj fm (mk j, mx j, my j, mo j) i = qBy fm (mk j) (qD1 (mx j) i N) (qD1 (my j) i N) := by
        intro i
        unfold qPj
        rw [hN]
      rw [hpb] at hle
      have H2 : ∃ q, zlp (fun z => f_X7_write_L92 n mcol mla mic mco mcX mcY mde mlo msh mpu mhu bd pX pY np mcr mcc kn nc mk mx my mo mnx mny sewn hf fm thr rY (qLim fm) j N z.1 z.2.1 z.2.2) zFU (1, n1, a) = some q ∧ qRow q.2.2 q.2.1 (qFile fm (C.take j.toNat) ++ qFM (qPj fm (mk j, mx j, my j, mo j)) 1 (N + 1)) := by
        refine zlp_for (fun s : Int × Int × (Int → Int) => s.1) (lo := 1) (hi := N + 1) (fun i s => qRow s.2.2 s.2.1 (qFile fm (C.take j.toNat) ++ qFM (qPj fm (mk j, mx j, my j, mo j)) 1 i)) _ (by omega) (by omega) ?_ ?_ (1, n1, a) rfl ?_
        · intro s i0 i1 hR
          obtain ⟨i, n1, a⟩ := s
          replace i0 : 1 ≤ i := i0
          replace i1 : i < N + 1 := i1
          replace hR : qRow a n1 (qFile fm (C.take j.toNat) ++ qFM (qPj fm (mk j, mx j, my j, mo j)) 1 i) := hR
          have hlt := qFM_lt (g := qPj fm (mk j, mx j, my j, mo j)) i0 i1
          have e1 := pE_downP (d := mx j) (j := i) (n := N) (by omega) (by omega) (by omega)
          have e2 := pE_downP (d := mx j) (j := i - 1) (n := N) (by omega) (by omega) (by omega)
          have e3 := pE_downP (d := my j) (j := i) (n := N) (by omega) (by omega) (by omega)
          have e4 := pE_downP (d := my j) (j := i - 1) (n := N) (by omega) (by omega) (by omega)
          rw [hpj i] at hlt
          obtain ⟨a', n', ew, hr⟩ := pE_wr (k := mk j) (x := qD1 (mx j) i N) (y := qD1 (my j) i N) hfm hR (by rw [List.length_append]; omega)
          refine ⟨(i + 1, n', a'), ?_, rfl, ?_⟩
          · show f_X7_write_L92 n mcol mla mic mco mcX mcY mde mlo msh mpu mhu bd pX pY np mcr mcc kn nc mk mx my mo mnx mny sewn hf fm thr rY (qLim fm) j N i n1 a = _
            unfold f_X7_write_L92
            simp (disch := omega) only [zck_t, if_neg, e1, e2, e3, e4, zb1_e, zlt]
            unfold qD1 at ew
            rw [qPl_0, qPl_0, qPl_0, qPl_0] at ew
            rw [ew]
            rfl
          · show qRow a' n' (qFile fm (C.take j.toNat) ++ qFM (qPj fm (mk j, mx j, my j, mo j)) 1 (i + 1))
            rw [qFM_succ i0, hpj i, ← List.append_assoc]
            exact hr
        · intro s i0 hR
          obtain ⟨i, n1, a⟩ := s
          replace i0 : i = N + 1 := i0
          refine ⟨(i, n1, a), ?_, hR⟩
          show f_X7_write_L92 n mcol mla mic mco mcX mcY mde mlo msh mpu mhu bd pX pY np mcr mcc kn nc mk mx my mo mnx mny sewn hf fm thr rY (qLim fm) j N i n1 a = _
          unfold f_X7_write_L92
          simp (disch := omega) only [zck_t, if_pos]
        · show qRow a n1 (_ ++ qFM _ 1 1)
          rw [qFM_nil (Int.le_refl _), List.append_nil]
          exact hR
      obtain ⟨⟨i, n', a'⟩, e2, hr⟩ := H2
      refine ⟨(j + 1, n', a'), ?_, rfl, ?_⟩
      · show f_X7_write_L49 n mcol mla mic mco mcX mcY mde mlo msh mpu mhu bd pX pY np mcr mcc kn nc mk mx my mo mnx mny sewn hf fm thr rY (qLim fm) j n1 a = _
        unfold f_X7_write_L49 f_X7_write_L49_87
        by_cases z : 1 ≤ (qG (mx j) (my j) + qLim fm - 1) / qLim fm
        · rw [if_pos z] at hmax
          rw [hmax] at e2
          simp (disch := omega) only [zck_t, if_neg, if_pos, hst, zb1_e]
          rw [e2]
          rfl
        · rw [if_neg z] at hmax
          rw [hmax] at e2
          simp (disch := omega) only [zck_t, if_neg, hst, zb1_e]
          rw [e2]
          rfl
      · show qRow a' n' (qFile fm (C.take (j + 1).toNat))
        rw [show (j + 1).toNat = j.toNat + 1 by omega, hfi, hpb]
        exact hr
    · intro s j0 hR
      obtain ⟨j, n1, a⟩ := s
      replace j0 : j = nc := j0
      rw [qRow_all hcm] at hR
      refine ⟨(j, n1, a), ?_, hR⟩
      show f_X7_write_L49 n mcol mla mic mco mcX mcY mde mlo msh mpu mhu bd pX pY np mcr mcc kn nc mk mx my mo mnx mny sewn hf fm thr rY (qLim fm) j n1 a = _
      unfold f_X7_write_L49
      simp (disch := omega) only [zck_t, if_pos]
  obtain ⟨⟨j, n', a'⟩, e, hr⟩ := H
  exact ⟨j, n', a', e, hr, hflen⟩
/-- a file, with its format -/
def qFil (ps pf hf mf ml : Int) (pb mb : Int → Int) : Prop := pFile ps pb ml mb ∧ (pf = 0 ∨ pf = 1) ∧ mf = pf ∧ (hf = 0 ∨ hf = 1) ∧ (hf = 0 → ps = 0)
theorem pL_write {bd pl m nx ny now np mcc kn nc mnx mny thr rY n out w1 ps pf hf mf ml : Int} {sec : UInt32} {P : Int → List (Int × Int)} {w la co cl cc de le sh pu un dr sz cn k x y o kc th mcol mla mic mco mcX mcY mde mlo msh mpu mhu sewn pX pY mcr mk mx my mo pb mb : Int → Int} {fx fy cr xs ys : Int → Int → Int} (hS : qSt n bd la co cl cc fx fy de le sh pu un mcol mla mic mco mcX mcY mde mlo msh mpu mhu) (hP : P = qPF cl cc fx fy de le sh pu un) (hC : qCl n la co P bd pl dr xs ys sz k x y o kc th m sec) (hM : qMl n la co P bd kn mk mx my mo nc) (hw : zR w1) (hfil : qFil ps pf hf mf ml pb mb) :
    ∃ (w' : Int → Int) (pl' : Int) (cr' : Int → Int → Int) (cn' dr' : Int → Int) (xs' ys' : Int → Int → Int) (sz' k' x' y' o' kc' th' : Int → Int) (m' : Int) (sec' : UInt32) (nx' ny' now' : Int) (pX' pY' : Int → Int) (np' : Int) (mcr' : Int → Int) (mcc' kn' nc' : Int) (mk' mx' my' mo' : Int → Int) (mnx' mny' : Int) (sewn' : Int → Int) (hf' mf' ml' : Int) (mb' : Int → Int) (thr' rY' : Int) (pb' : Int → Int) (ps' pf' : Int) (out' : Int), f_law_write w bd pl co la cl fx fy cr cc cn de le sh pu un dr xs ys sz k x y o kc th m sec nx ny now pb ps pf n mcol mla mic mco mcX mcY mde mlo msh mpu mhu bd pX pY np mcr mcc kn nc mk mx my mo mnx mny sewn hf mf ml mb thr rY out n w1 = some (w', pl', cr', cn', dr', xs', ys', sz', k', x', y', o', kc', th', m', sec', nx', ny', now', pb', ps', pf', pX', pY', np', mcr', mcc', kn', nc', mk', mx', my', mo', mnx', mny', sewn', hf', mf', ml', mb', thr', rY', out') ∧ qCl n la co P bd pl' dr' xs' ys' sz' k' x' y' o' kc' th' m' sec' ∧ qMl n la co P bd kn' mk' mx' my' mo' nc' ∧ qFil ps' pf' hf' mf' ml' pb' mb' := by
  unfold f_law_write f_L_write f_X6_write f_X7_write f_X7_thrown
  by_cases c1 : w1 = 0 ∨ w1 = 1
  · obtain ⟨C, w', cr', cn', dr', xs', ys', sz', k', x', y', o', kc', th', m', sec', nx', ny', now', pX', pY', np', mcr', mcc', nc', mk', mx', my', mo', mnx', mny', sewn', rY', e1, e2, ⟨b1, b2, b3, b4⟩, hpr, hcm, hC', hM'⟩ := pR_both (w := w) (cn := cn) (cr := cr) (nx := nx) (ny := ny) (now := now) (pX := pX) (pY := pY) (np := np) (mcr := mcr) (mcc := mcc) (rY := rY) (mnx := mnx) (mny := mny) (sewn := sewn) hS hP hC hM
    have h1 := hpr.1.1
    have h2 := hcm.1
    obtain ⟨a1, n1, s1, et, hr1, hs1, hn1⟩ := pE_take (a := pb) (n0 := ps) (f0 := pf) (fm := w1) c1 hpr.1 b2 b3 b4
    obtain ⟨j, n2, a2, em, hr2, hfl⟩ := pE_mwrite (n := n) (bd := bd) (np := np') (mcc := mcc') (kn := 1) (mnx := mnx') (mny := mny') (hf := 1) (thr := 0) (rY := rY') (mcol := mcol) (mla := mla) (mic := mic) (mco := mco) (mcX := mcX) (mcY := mcY) (mde := mde) (mlo := mlo) (msh := msh) (mpu := mpu) (mhu := mhu) (pX := pX') (pY := pY') (mcr := mcr') (sewn := sewn') (a := mb) c1 hcm b2 b3 b4
    have hnr := hr2.1
    have h255 : ∀ v, 0 ≤ v → v < n2 → 0 ≤ a2 v ∧ a2 v ≤ 255 := fun v v0 v1 => qFile_255 c1 b3 _ (qRow_mem hr2 v0 v1)
    have hsm := pE_sumM (a := a2) (p := n2) (by omega) h255
    have hl1 := hr1.1
    rw [List.length_append, List.length_singleton] at hl1
    have hn12 : n1 - 1 = n2 := by omega
    have hpre : ∀ v, 0 ≤ v → v < n2 → a1 v = a2 v := by
      intro v v0 v1
      have e1 := qRow_at hr1 (i := v) v0 (by omega)
      rw [List.getElem?_append_left (by omega)] at e1
      have e2 := qRow_at hr2 (i := v) v0 v1
      rw [e1] at e2
      exact Option.some.inj e2
    have hct : qCt a1 (n1 - 1) = qCt a2 n2 := by
      rw [hn12]
      have := qCt_congr (a := a1) (b := a2) n2.toNat (fun v v0 v1 => hpre v v0 (by omega))
      rw [show ((n2.toNat : Nat) : Int) = n2 by omega] at this
      exact this
    have hlast : a1 n2 = qCt a2 n2 % 256 := by
      have e1 := qRow_at hr1 (i := n2) (by omega) (by omega)
      rw [List.getElem?_append_right (by omega), show n2.toNat - (qFile w1 C).length = 0 by omega, List.getElem?_cons_zero] at e1
      rw [← Option.some.inj e1, hs1, hct]
    have hmod := Int.emod_nonneg (qCt a2 n2) (show (256 : Int) ≠ 0 by decide)
    have hmod2 := Int.emod_lt_of_pos (qCt a2 n2) (show (0 : Int) < 256 by decide)
    have hfil' : qFil n1 w1 1 w1 (n2 + 1) a1 (zup a2 n2 (qCt a2 n2 % 256)) := by
      refine ⟨⟨by omega, by omega, by omega, fun v v0 v1 => ?_⟩, c1, rfl, Or.inr rfl, fun z => absurd z (by decide)⟩
      by_cases q : v = n2
      · rw [q, zup_s, hlast]
        omega
      · rw [zup_n q]
        have := h255 v v0 (by omega)
        exact ⟨hpre v v0 (by omega), this⟩
    refine ⟨w', 1, cr', cn', dr', xs', ys', sz', k', x', y', o', kc', th', m', sec', nx', ny', now', pX', pY', np', mcr', mcc', 1, nc', mk', mx', my', mo', mnx', mny', sewn', 1, w1, n2 + 1, zup a2 n2 (qCt a2 n2 % 256), 0, rY', a1, n1, w1, n1, ?_, hC', hM', hfil'⟩
    have hcls : f_X6_write_19 w bd pl co la cl fx fy cr cc cn de le sh pu un dr xs ys sz k x y o kc th m sec nx ny now pb ps pf n w1 = some (0, n1, w', 1, cr', cn', dr', xs', ys', sz', k', x', y', o', kc', th', m', sec', nx', ny', now', a1, n1, w1) := by
      unfold f_X6_write_19
      rw [e1]
      simp only [zb19_e]
      rw [et]
      rfl
    have hlimof : f_X7_limitOf w1 = some (qLim w1) := by
      unfold f_X7_limitOf qLim
      rcases c1 with q | q <;> subst q <;> rfl
    have hmod3 : f_X7_write_15 n mcol mla mic mco mcX mcY mde mlo msh mpu mhu bd pX pY np mcr mcc kn nc mk mx my mo mnx mny sewn hf mf ml mb thr rY w1 1 = some (n2 + 1, pX', pY', np', mcr', mcc', 1, nc', mk', mx', my', mo', mnx', mny', sewn', 1, w1, n2 + 1, zup a2 n2 (qCt a2 n2 % 256), 0, rY') := by
      unfold f_X7_write_15
      rw [pE_asks1]
      simp (disch := omega) only [zb2_e, zck_t, if_neg]
      rw [e2]
      simp only [zb15_e]
      rw [hlimof]
      simp only [zb1_e]
      rw [em]
      simp only [zb3_e]
      rw [hsm]
      simp (disch := omega) only [zb1_e, zck_t, zlt]
    unfold f_X7_write_10
    rw [hcls, hmod3]
    rcases c1 with q | q
    · simp (disch := omega) only [zck_t, if_pos, zb24_e, zb21_e, zb1_e, if_true, if_false, not_true_eq_false, if_neg]
    · simp (disch := omega) only [zck_t, if_pos, if_neg, zb24_e, zb21_e, zb1_e, if_true, if_false, not_true_eq_false]
  · refine ⟨w, pl, cr, cn, dr, xs, ys, sz, k, x, y, o, kc, th, m, sec, nx, ny, now, pX, pY, np, mcr, mcc, kn, nc, mk, mx, my, mo, mnx, mny, sewn, hf, mf, ml, mb, 1, rY, pb, ps, pf, out, ?_, hC, hM, hfil⟩
    unfold f_X7_write_15
    simp (disch := omega) only [zck_t, if_neg, if_pos, zb24_e, zb21_e, zb1_e, zb2_e, if_true, if_false, not_true_eq_false, not_false_eq_true, pE_asks0]
