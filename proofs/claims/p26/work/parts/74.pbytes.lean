/-! ===== a file's bytes ===== -/
theorem qCt_255 {a : Int → Int} (n : Nat) : (∀ v, 0 ≤ v → v < (n : Int) → 0 ≤ a v ∧ a v ≤ 255) → 0 ≤ qCt a n ∧ qCt a n ≤ 255 * n := by
  induction n with
  | zero => intro _; rw [show ((0 : Nat) : Int) = 0 by rfl, qCt_0]; omega
  | succ n ih =>
    intro h
    have h1 := ih (fun v a b => h v a (by omega))
    have h2 := h n (by omega) (by omega)
    rw [show ((n + 1 : Nat) : Int) = (n : Int) + 1 by omega, qCt_s (by omega)]
    omega
theorem pE_sumC {a : Int → Int} {p : Int} (hp : 0 ≤ p ∧ p ≤ 49924) (h : ∀ v, 0 ≤ v → v < p → 0 ≤ a v ∧ a v ≤ 255) : f_X2_sumAhead a p = some (qCt a p % 256) := by
  have H : ∃ q, zlp (fun z => f_X2_sumAhead_L4 a p z.1 z.2) zFU (0, 0) = some q ∧ q.1 = qCt a p := by
    refine zlp_for (fun s : Int × Int => s.2) (lo := 0) (hi := p) (fun j s => s.1 = qCt a j) _ hp.1 (by omega) ?_ ?_ (0, 0) rfl qCt_0.symm
    · intro s h0 h1 hR
      obtain ⟨t, j⟩ := s
      replace h0 : 0 ≤ j := h0
      replace h1 : j < p := h1
      replace hR : t = qCt a j := hR
      refine ⟨(t + a j, j + 1), ?_, rfl, by show t + a j = qCt a (j + 1); rw [qCt_s h0, hR]⟩
      show f_X2_sumAhead_L4 a p t j = _
      unfold f_X2_sumAhead_L4
      simp (disch := omega) only [zck_t, if_neg, zlt]
    · intro s h0 hR
      obtain ⟨t, j⟩ := s
      replace h0 : j = p := h0
      refine ⟨(t, j), ?_, hR⟩
      show f_X2_sumAhead_L4 a p t j = _
      unfold f_X2_sumAhead_L4
      simp (disch := omega) only [zck_t, if_pos]
  obtain ⟨⟨t, j⟩, e, ht⟩ := H
  replace ht : t = qCt a p := ht
  have hb := qCt_255 (a := a) p.toNat (fun v v0 v1 => h v v0 (by omega))
  rw [show ((p.toNat : Nat) : Int) = p by omega] at hb
  unfold f_X2_sumAhead
  rw [e]
  simp only [zb2_e]
  rw [zck_t (by omega), Int.tmod_eq_emod_of_nonneg (by omega), ht]
/-- the bytes of a short command -/
def qBy (fm k x y : Int) : List Int := if fm = 0 then [32 * k + x + 16, y + 16] else [k, x + 128, y + 128]
def qLim (fm : Int) : Int := if fm = 0 then 12 else 121
def qD1 (d j n : Int) : Int := qPl 0 d j n - qPl 0 d (j - 1) n
/-- how many short commands -/
def qPn (fm : Int) (m : qC) : Int := if m.1 = 1 then (qG m.2.1 m.2.2.1 + qLim fm - 1) / qLim fm else 1
def qPj (fm : Int) (m : qC) (j : Int) : List Int := qBy fm m.1 (qD1 m.2.1 j (qPn fm m)) (qD1 m.2.2.1 j (qPn fm m))
def qPb (fm : Int) (m : qC) : List Int := qFM (qPj fm m) 1 (qPn fm m + 1)
def qFile (fm : Int) (C : List qC) : List Int := C.flatMap (qPb fm)
theorem qLim_01 {fm : Int} (h : fm = 0 ∨ fm = 1) : (fm = 0 ∧ qLim fm = 12) ∨ (fm = 1 ∧ qLim fm = 121) := by
  rcases h with q | q <;> subst q
  · exact Or.inl ⟨rfl, rfl⟩
  · exact Or.inr ⟨rfl, rfl⟩
theorem qPn_b {n fm : Int} {m : qC} (hfm : fm = 0 ∨ fm = 1) (h : qWf n m) : (1 ≤ qPn fm m ∧ qPn fm m ≤ 4) ∧ (fm = 0 → qPn fm m = qPc m) ∧ (fm = 1 → qPn fm m = 1) ∧ (qG m.2.1 m.2.2.1 ≤ qLim fm * qPn fm m) := by
  obtain ⟨h1, h2, h3, h4, h5, h6⟩ := h
  have hg := qG_e m.2.1 m.2.2.1
  unfold qPn qPc
  rcases qLim_01 hfm with ⟨q1, q2⟩ | ⟨q1, q2⟩
  · rw [q2]
    by_cases z : m.1 = 1
    · rw [if_pos z, if_pos z]
      have := (h5 (by omega)).2
      omega
    · rw [if_neg z, if_neg z]
      by_cases z0 : m.1 = 0
      · have := h4 z0
        omega
      · have := h6 (by omega)
        omega
  · rw [q2]
    by_cases z : m.1 = 1
    · rw [if_pos z, if_pos z]
      have := (h5 (by omega)).2
      omega
    · rw [if_neg z, if_neg z]
      omega
theorem qD1_b {d j n M : Int} (hn : 0 < n) (h : -(M * n) ≤ d ∧ d ≤ M * n) : -M ≤ qD1 d j n ∧ qD1 d j n ≤ M := by
  have := qPl_step (a := 0) (b := d) (j := j - 1) (n := n) (M := M) hn (by omega)
  rw [show j - 1 + 1 = j by omega] at this
  exact this
theorem qD1_1 {d j : Int} : qD1 d j 1 = d := by
  unfold qD1 qPl
  rw [Int.ediv_one, Int.ediv_one, Int.mul_sub]
  omega
theorem qBy_len {fm k x y : Int} (hfm : fm = 0 ∨ fm = 1) : ((qBy fm k x y).length : Int) = if fm = 0 then 2 else 3 := by
  unfold qBy
  rcases hfm with q | q <;> subst q <;> rfl
theorem qPb_len {n fm : Int} {m : qC} (hfm : fm = 0 ∨ fm = 1) (h : qWf n m) : ((qPb fm m).length : Int) = if fm = 0 then 2 * qPc m else 3 := by
  obtain ⟨b1, b2, b3, _⟩ := qPn_b hfm h
  have key : ∀ k : Nat, ((qFM (qPj fm m) 1 (1 + k)).length : Int) = (if fm = 0 then 2 else 3) * k := by
    intro k
    induction k with
    | zero => rw [qFM_nil (by omega)]; simp
    | succ k ih =>
      have e := qBy_len (k := m.1) (x := qD1 m.2.1 (1 + k) (qPn fm m)) (y := qD1 m.2.2.1 (1 + k) (qPn fm m)) hfm
      rw [show (1 : Int) + ((k + 1 : Nat) : Int) = (1 + k) + 1 by omega, qFM_succ (by omega), List.length_append, show (qPj fm m (1 + k)) = qBy fm m.1 (qD1 m.2.1 (1 + k) (qPn fm m)) (qD1 m.2.2.1 (1 + k) (qPn fm m)) from rfl, show ((k + 1 : Nat) : Int) = (k : Int) + 1 by omega, Int.mul_add, Int.mul_one]
      omega
  have := key (qPn fm m).toNat
  rw [show (1 : Int) + ((qPn fm m).toNat : Int) = qPn fm m + 1 by omega, show (((qPn fm m).toNat : Nat) : Int) = qPn fm m by omega] at this
  unfold qPb
  rw [this]
  rcases hfm with q | q
  · rw [if_pos q, if_pos q, b2 q]
  · rw [if_neg (by omega), if_neg (by omega), b3 q]
    rfl
theorem qFile_app {fm : Int} {A B : List qC} : qFile fm (A ++ B) = qFile fm A ++ qFile fm B := by
  unfold qFile
  rw [List.flatMap_append]
theorem qFile_len {n fm : Int} {C : List qC} (hfm : fm = 0 ∨ fm = 1) (h : ∀ m ∈ C, qWf n m) : ((qFile fm C).length : Int) = if fm = 0 then 2 * qSum qPc C else 3 * (C.length : Int) := by
  induction C with
  | nil => split <;> rfl
  | cons m C ih =>
    have h1 := qPb_len hfm (h m (List.mem_cons.mpr (Or.inl rfl)))
    have h2 := ih (fun x hx => h x (List.mem_cons.mpr (Or.inr hx)))
    have e : qFile fm (m :: C) = qPb fm m ++ qFile fm C := rfl
    rw [e, List.length_append, qSum_cons, List.length_cons, show ((C.length + 1 : Nat) : Int) = (C.length : Int) + 1 by omega]
    rcases hfm with q | q
    · rw [if_pos q] at h1 h2 ⊢
      omega
    · rw [if_neg (by omega)] at h1 h2 ⊢
      omega
theorem qPj_255 {n fm j : Int} {m : qC} (hfm : fm = 0 ∨ fm = 1) (h : qWf n m) : ∀ b ∈ qPj fm m j, 0 ≤ b ∧ b ≤ 255 := by
  obtain ⟨b1, b2, b3, b4⟩ := qPn_b hfm h
  obtain ⟨h1, h2, h3, h4, h5, h6⟩ := h
  have hg := qG_e m.2.1 m.2.2.1
  have d1 := qD1_b (d := m.2.1) (j := j) (n := qPn fm m) (M := qLim fm) (by omega) (by omega)
  have d2 := qD1_b (d := m.2.2.1) (j := j) (n := qPn fm m) (M := qLim fm) (by omega) (by omega)
  have hz : 2 ≤ m.1 → qD1 m.2.1 j (qPn fm m) = 0 ∧ qD1 m.2.2.1 j (qPn fm m) = 0 := by
    intro z
    have hn : qPn fm m = 1 := by
      unfold qPn
      rw [if_neg (by omega)]
    rw [hn, qD1_1, qD1_1]
    exact ⟨(h6 z).1, (h6 z).2.1⟩
  intro b hb
  unfold qPj qBy at hb
  rcases qLim_01 hfm with ⟨q1, q2⟩ | ⟨q1, q2⟩
  · rw [if_pos q1] at hb
    rw [q2] at d1 d2
    rcases List.mem_cons.mp hb with e | e
    · by_cases z : 2 ≤ m.1
      · have := hz z
        omega
      · omega
    · have := List.mem_singleton.mp e
      omega
  · rw [if_neg (by omega)] at hb
    rw [q2] at d1 d2
    rcases List.mem_cons.mp hb with e | e
    · omega
    · rcases List.mem_cons.mp e with e | e
      · omega
      · have := List.mem_singleton.mp e
        omega
theorem qFile_255 {n fm : Int} {C : List qC} (hfm : fm = 0 ∨ fm = 1) (h : ∀ m ∈ C, qWf n m) : ∀ b ∈ qFile fm C, 0 ≤ b ∧ b ≤ 255 := by
  intro b hb
  unfold qFile at hb
  obtain ⟨m, hm, hb⟩ := List.mem_flatMap.mp hb
  obtain ⟨j, _, _, hj⟩ := qFM_mem.mp hb
  exact qPj_255 hfm (h m hm) b hj
theorem pE_byte {a : Int → Int} {n v : Int} {L : List Int} (h : qRow a n L) (hn : n < 49924) : f_X2_putByte a n v = some (zup a n v, n + 1) := by
  have := qRow_nn h
  unfold f_X2_putByte
  simp (disch := omega) only [zck_t, if_neg, zlt]
theorem pE_pcmd {a : Int → Int} {n fm k x y : Int} {L : List Int} (hfm : fm = 0 ∨ fm = 1) (h : qRow a n L) (hn : L.length + (qBy fm k x y).length ≤ 49924) : ∃ a' n', f_X2_putCommand a n fm k x y = some (a', n') ∧ qRow a' n' (L ++ qBy fm k x y) := by
  have hnl := h.1
  have hbl := qBy_len (k := k) (x := x) (y := y) hfm
  unfold f_X2_putCommand
  rcases hfm with q | q
  · subst q
    rw [if_pos rfl] at hbl
    have r1 := qRow_put h (32 * k + x + 16)
    have r2 := qRow_put r1 (y + 16)
    rw [show qBy 0 k x y = [32 * k + x + 16] ++ [y + 16] from rfl, ← List.append_assoc]
    refine ⟨_, _, ?_, r2⟩
    rw [pE_byte h (by omega)]
    simp (disch := omega) only [zck_t, if_true, zb2_e]
    rw [pE_byte r1 (by omega)]
    rfl
  · subst q
    rw [if_neg (by decide)] at hbl
    have r1 := qRow_put h k
    have r2 := qRow_put r1 (x + 128)
    have r3 := qRow_put r2 (y + 128)
    rw [show qBy 1 k x y = [k] ++ [x + 128] ++ [y + 128] from rfl, ← List.append_assoc, ← List.append_assoc]
    refine ⟨_, _, ?_, r3⟩
    rw [pE_byte (v := k) h (by omega)]
    simp (disch := omega) only [zck_t, if_neg, zb2_e]
    rw [pE_byte r1 (by omega)]
    simp only [zb2_e]
    rw [pE_byte r2 (by omega)]
    rfl
theorem pE_whole {a : Int → Int} {n fm nn : Int} {m : qC} {L : List Int} (hfm : fm = 0 ∨ fm = 1) (hm : qWf nn m) (h : qRow a n L) (hn : L.length + (qPb fm m).length ≤ 49924) : ∃ a' n', f_X2_putWhole a n fm m.1 m.2.1 m.2.2.1 = some (a', n') ∧ qRow a' n' (L ++ qPb fm m) := by
  obtain ⟨b1, b2, b3, b4⟩ := qPn_b hfm hm
  obtain ⟨h1, h2, h3, h4, h5, h6⟩ := hm
  have hg := qG_e m.2.1 m.2.2.1
  unfold f_X2_putWhole
  by_cases z : m.1 = 1
  · have hlim : f_X2_limit fm = some (qLim fm) := by
      unfold f_X2_limit qLim
      rcases hfm with q | q <;> subst q <;> rfl
    have hup : f_X6_roundedUp (qG m.2.1 m.2.2.1) (qLim fm) = some (qPn fm m) := by
      unfold qPn
      rw [if_pos z]
      rcases qLim_01 hfm with ⟨_, q2⟩ | ⟨_, q2⟩ <;> rw [q2] <;> exact pE_up (by omega) (by omega)
    have H : ∃ q, zlp (fun z => f_X2_putWhole_L36 fm m.2.1 m.2.2.1 (qPn fm m) z.1 z.2.1 z.2.2.1 z.2.2.2.1 z.2.2.2.2) zFU (0, 0, 1, a, n) = some q ∧ qRow q.2.2.2.1 q.2.2.2.2 (L ++ qPb fm m) := by
      refine zlp_for (fun s : Int × Int × Int × (Int → Int) × Int => s.2.2.1) (lo := 1) (hi := qPn fm m + 1) (fun j s => s.1 = qPl 0 m.2.1 (j - 1) (qPn fm m) ∧ s.2.1 = qPl 0 m.2.2.1 (j - 1) (qPn fm m) ∧ qRow s.2.2.2.1 s.2.2.2.2 (L ++ qFM (qPj fm m) 1 j)) _ (by omega) (by omega) ?_ ?_ (0, 0, 1, a, n) rfl ?_
      · intro s j0 j1 hR
        obtain ⟨x, y, j, a, n⟩ := s
        replace j0 : 1 ≤ j := j0
        replace j1 : j < qPn fm m + 1 := j1
        obtain ⟨r1, r2, hR⟩ := hR
        replace r1 : x = qPl 0 m.2.1 (j - 1) (qPn fm m) := r1
        replace r2 : y = qPl 0 m.2.2.1 (j - 1) (qPn fm m) := r2
        replace hR : qRow a n (L ++ qFM (qPj fm m) 1 j) := hR
        have hlt := qFM_lt (g := qPj fm m) j0 j1
        have hn : L.length + (qFM (qPj fm m) 1 (qPn fm m + 1)).length ≤ 49924 := hn
        have e1 := pE_place (a := 0) (b := m.2.1) (j := j) (n := qPn fm m) (by omega) (by omega) (by omega)
        have e2 := pE_place (a := 0) (b := m.2.2.1) (j := j) (n := qPn fm m) (by omega) (by omega) (by omega)
        obtain ⟨a', n', ec, hr⟩ := pE_pcmd (k := m.1) (x := qD1 m.2.1 j (qPn fm m)) (y := qD1 m.2.2.1 j (qPn fm m)) hfm hR (by
          rw [List.length_append]
          have : (qPj fm m j).length = (qBy fm m.1 (qD1 m.2.1 j (qPn fm m)) (qD1 m.2.2.1 j (qPn fm m))).length := rfl
          omega)
        refine ⟨(qPl 0 m.2.1 j (qPn fm m), qPl 0 m.2.2.1 j (qPn fm m), j + 1, a', n'), ?_, rfl, ?_, ?_, ?_⟩
        · show f_X2_putWhole_L36 fm m.2.1 m.2.2.1 (qPn fm m) x y j a n = _
          unfold f_X2_putWhole_L36
          simp (disch := omega) only [zck_t, if_neg, e1, e2, zb1_e]
          rw [r1, r2, show qPl 0 m.2.1 j (qPn fm m) - qPl 0 m.2.1 (j - 1) (qPn fm m) = qD1 m.2.1 j (qPn fm m) from rfl, show qPl 0 m.2.2.1 j (qPn fm m) - qPl 0 m.2.2.1 (j - 1) (qPn fm m) = qD1 m.2.2.1 j (qPn fm m) from rfl]
          rw [z] at ec
          rw [ec]
          rfl
        · show qPl 0 m.2.1 j (qPn fm m) = qPl 0 m.2.1 (j + 1 - 1) (qPn fm m)
          rw [show j + 1 - 1 = j by omega]
        · show qPl 0 m.2.2.1 j (qPn fm m) = qPl 0 m.2.2.1 (j + 1 - 1) (qPn fm m)
          rw [show j + 1 - 1 = j by omega]
        · show qRow a' n' (L ++ qFM (qPj fm m) 1 (j + 1))
          rw [qFM_succ j0, ← List.append_assoc]
          exact hr
      · intro s j0 hR
        obtain ⟨x, y, j, a, n⟩ := s
        replace j0 : j = qPn fm m + 1 := j0
        refine ⟨(x, y, j, a, n), ?_, hR.2.2⟩
        show f_X2_putWhole_L36 fm m.2.1 m.2.2.1 (qPn fm m) x y j a n = _
        unfold f_X2_putWhole_L36
        simp (disch := omega) only [zck_t, if_pos]
      · refine ⟨?_, ?_, ?_⟩
        · show 0 = qPl 0 m.2.1 (1 - 1) (qPn fm m)
          unfold qPl
          rw [show (1 : Int) - 1 = 0 by rfl, Int.mul_zero, Int.zero_ediv]
          rfl
        · show 0 = qPl 0 m.2.2.1 (1 - 1) (qPn fm m)
          unfold qPl
          rw [show (1 : Int) - 1 = 0 by rfl, Int.mul_zero, Int.zero_ediv]
          rfl
        · show qRow a n (L ++ qFM _ 1 1)
          rw [qFM_nil (Int.le_refl _), List.append_nil]
          exact h
    obtain ⟨⟨x, y, j, a', n'⟩, e, hr⟩ := H
    refine ⟨a', n', ?_, hr⟩
    rw [pE_great (by omega) (by omega), hlim]
    simp (disch := omega) only [zck_t, if_pos, zb1_e, hup]
    rw [e]
    rfl
  · have hn1 : qPn fm m = 1 := by
      unfold qPn
      rw [if_neg z]
    have hpb : qPb fm m = qBy fm m.1 m.2.1 m.2.2.1 := by
      unfold qPb
      rw [hn1, qFM_succ (by omega), qFM_nil (by omega), List.nil_append]
      unfold qPj
      rw [hn1, qD1_1, qD1_1]
    rw [hpb] at hn ⊢
    obtain ⟨a', n', ec, hr⟩ := pE_pcmd hfm h hn
    refine ⟨a', n', ?_, hr⟩
    simp (disch := omega) only [zck_t, if_neg, ec, zb2_e]
theorem pE_take {k x y o a : Int → Int} {nc n0 f0 fm nn : Int} {C : List qC} (hfm : fm = 0 ∨ fm = 1) (hcm : qCm k x y o nc C) (hl : C.length ≤ 16641) (hwf : ∀ m ∈ C, qWf nn m) (hpc : qSum qPc C ≤ 23001) :
    ∃ a' n' s, f_X2_take k x y o nc a n0 f0 fm = some (a', n', fm) ∧ qRow a' n' (qFile fm C ++ [s]) ∧ s = qCt a' (n' - 1) % 256 ∧ n' ≤ 49924 := by
  have hn0 := qRow_nn hcm
  have hnl := hcm.1
  have hfl := qFile_len hfm hwf
  have hflen : (qFile fm C).length ≤ 49923 := by
    rcases hfm with q | q
    · rw [if_pos q] at hfl; omega
    · rw [if_neg (by omega)] at hfl; omega
  have H : ∃ q, zlp (fun z => f_X2_take_L12 k x y o nc fm z.1 z.2.1 z.2.2) zFU (0, a, 0) = some q ∧ qRow q.2.1 q.2.2 (qFile fm C) := by
    refine zlp_for (fun s : Int × (Int → Int) × Int => s.1) (lo := 0) (hi := nc) (fun j s => qRow s.2.1 s.2.2 (qFile fm (C.take j.toNat))) _ hn0 (by omega) ?_ ?_ (0, a, 0) rfl (qRow_nil _)
    · intro s j0 j1 hR
      obtain ⟨j, a, n⟩ := s
      replace j0 : 0 ≤ j := j0
      replace j1 : j < nc := j1
      replace hR : qRow a n (qFile fm (C.take j.toNat)) := hR
      have htk := qRow_take hcm j0 j1
      have hfi : qFile fm (C.take (j.toNat + 1)) = qFile fm (C.take j.toNat) ++ qPb fm (k j, x j, y j, o j) := by
        rw [htk, qFile_app]
        show _ ++ (qPb fm (k j, x j, y j, o j) ++ []) = _
        rw [List.append_nil]
      have hle : (qFile fm (C.take (j.toNat + 1))).length ≤ (qFile fm C).length := by
        have e := List.take_append_drop (j.toNat + 1) C
        have e2 : qFile fm C = qFile fm (C.take (j.toNat + 1)) ++ qFile fm (C.drop (j.toNat + 1)) := by rw [← qFile_app, e]
        rw [e2, List.length_append]
        omega
      rw [hfi, List.length_append] at hle
      obtain ⟨a', n', ew, hr⟩ := pE_whole (m := (k j, x j, y j, o j)) hfm (hwf _ (qRow_mem hcm j0 j1)) hR (by omega)
      refine ⟨(j + 1, a', n'), ?_, rfl, ?_⟩
      · show f_X2_take_L12 k x y o nc fm j a n = _
        unfold f_X2_take_L12
        rw [pE_told (by omega) (by omega), pE_told (by omega) (by omega), pE_told (by omega) (by omega)]
        simp (disch := omega) only [zck_t, if_neg, zb1_e, if_true]
        replace ew : f_X2_putWhole a n fm (k j) (x j) (y j) = some (a', n') := ew
        rw [ew]
        rfl
      · show qRow a' n' (qFile fm (C.take (j + 1).toNat))
        rw [show (j + 1).toNat = j.toNat + 1 by omega, hfi]
        exact hr
    · intro s j0 hR
      obtain ⟨j, a, n⟩ := s
      replace j0 : j = nc := j0
      rw [qRow_all hcm] at hR
      refine ⟨(j, a, n), ?_, hR⟩
      show f_X2_take_L12 k x y o nc fm j a n = _
      unfold f_X2_take_L12
      simp (disch := omega) only [zck_t, if_pos]
  obtain ⟨⟨j, a', n'⟩, e, hr⟩ := H
  replace hr : qRow a' n' (qFile fm C) := hr
  have hnr := hr.1
  have h255 : ∀ v, 0 ≤ v → v < n' → 0 ≤ a' v ∧ a' v ≤ 255 := fun v v0 v1 => qFile_255 hfm hwf _ (qRow_mem hr v0 v1)
  have hs := pE_sumC (a := a') (p := n') (by omega) h255
  refine ⟨zup a' n' (qCt a' n' % 256), n' + 1, qCt a' n' % 256, ?_, qRow_put hr _, ?_, by omega⟩
  · unfold f_X2_take
    rw [e]
    simp only [zb3_e]
    rw [hs]
    simp only [zb1_e]
    rw [pE_byte hr (by omega)]
    rfl
  · rw [show n' + 1 - 1 = n' by omega]
    have := qCt_congr (a := zup a' n' (qCt a' n' % 256)) (b := a') n'.toNat (fun v v0 v1 => zup_n (by omega))
    rw [show ((n'.toNat : Nat) : Int) = n' by omega] at this
    rw [this]
