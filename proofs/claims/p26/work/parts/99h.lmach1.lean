/-! ===== the machine, as the law tells it ===== -/
theorem yK0_d {k : Int → Int} {a : Int} (n : Nat) : 0 ≤ a → 0 ≤ qCt (qK0 k) (a + n) - qCt (qK0 k) a ∧ qCt (qK0 k) (a + n) - qCt (qK0 k) a ≤ n := by
  induction n with
  | zero => intro _; rw [show a + ((0 : Nat) : Int) = a by omega]; omega
  | succ n ih =>
    intro h
    have h1 := ih h
    have h2 := qK0_01 (k := k) (j := a + n)
    rw [show a + ((n + 1 : Nat) : Int) = a + n + 1 by omega, qCt_s (by omega)]
    omega
theorem yBet_b {k : Int → Int} {a b : Int} (h : 0 ≤ a ∧ a ≤ b) : 0 ≤ yBet k a b ∧ yBet k a b ≤ b - a := by
  have := yK0_d (k := k) (a := a) (b - a).toNat h.1
  rw [show a + (((b - a).toNat : Nat) : Int) = b by omega] at this
  unfold yBet
  omega
theorem yl_start {S : yS} {dv : Int → Int} {B p4 : Int} (h : yLv S dv B) (hB : 0 ≤ B ∧ B ≤ 2000000) : ∃ S' dv', f_L_machine_20 S S dv p4 = some (1, S', S', dv') ∧ yLv S' dv' (B + 20000) := by
  obtain ⟨hW, d0, d1, d2, d3, d4, d5, d5z, d6⟩ := id h
  obtain ⟨hp, hl, -, -⟩ := yC_ok hW.1 hW.2.1
  have hn : 0 ≤ S.1.1 ∧ S.1.1 ≤ 8 := hW.1.1.1
  obtain ⟨a, ea, a0, a1⟩ := yl_some (x := p4) (n := 4) (by omega)
  obtain ⟨l, el, l0, l1⟩ := yl_some (x := ysr p4 3) (n := 6) (by omega)
  have hL : ∀ dw : Int → Int, ∃ r, zlp (fun z : Int × (Int → Int) => f_L_machine_L45 S S p4 z.1 z.2) zFU (0, dw) = some r ∧ ((∀ i, i < 22 → r.2 i = dw i) ∧ ∀ i, 22 ≤ i → i < 26 → r.2 i = -1) := by
    intro dw
    refine zlp_for (fun s : Int × (Int → Int) => s.1) (lo := 0) (hi := 4) (fun j s => (∀ i, i < 22 → s.2 i = dw i) ∧ ∀ i, 22 ≤ i → i < 22 + j → s.2 i = -1) _ (by omega) (by omega) ?_ ?_ (0, dw) rfl ⟨fun _ _ => rfl, fun i i0 i1 => by omega⟩
    · intro s j0 j1 hR
      obtain ⟨j, dx⟩ := s
      replace j0 : 0 ≤ j := j0
      replace j1 : j < 4 := j1
      obtain ⟨r1, r2⟩ := hR
      replace r1 : ∀ i, i < 22 → dx i = dw i := r1
      replace r2 : ∀ i, 22 ≤ i → i < 22 + j → dx i = -1 := r2
      refine ⟨(j + 1, zup dx (22 + j) (-1)), ?_, rfl, ?_, ?_⟩
      · show f_L_machine_L45 S S p4 j dx = _
        unfold f_L_machine_L45
        rw [zck_t (by omega), if_neg (by omega), zck_t (by omega), zlt_e]
      · intro i i0
        show zup dx (22 + j) (-1) i = dw i
        rw [zup_n (by omega)]
        exact r1 i i0
      · intro i i0 i1
        show zup dx (22 + j) (-1) i = -1
        by_cases z : i = 22 + j
        · rw [z, zup_s]
        · rw [zup_n z]
          exact r2 i i0 (by omega)
    · intro s j0 hR
      obtain ⟨j, dx⟩ := s
      replace j0 : j = 4 := j0
      refine ⟨(j, dx), ?_, hR.1, fun i i0 i1 => hR.2 i i0 (by omega)⟩
      show f_L_machine_L45 S S p4 j dx = _
      unfold f_L_machine_L45
      rw [zck_t (by omega), if_pos (by omega)]
  obtain ⟨⟨j4, dw⟩, eL, w1, w2⟩ := hL (zup (zup (zup dv 3 (1 + a)) 4 (y_commands S)) 5 0)
  replace w1 : ∀ i, i < 22 → dw i = zup (zup (zup dv 3 (1 + a)) 4 (y_commands S)) 5 0 i := w1
  replace w2 : ∀ i, 22 ≤ i → i < 26 → dw i = -1 := w2
  have k3 : dw 3 = 1 + a := by rw [w1 3 (by omega), zup_n (by omega), zup_n (by omega), zup_s]
  have k4 : dw 4 = ((yC S.1 S.2.1).length : Int) := by rw [w1 4 (by omega), zup_n (by omega), zup_s]; rfl
  have k5 : dw 5 = 0 := by rw [w1 5 (by omega), zup_s]
  have ko : ∀ i, i < 22 → i ≠ 3 → i ≠ 4 → i ≠ 5 → dw i = dv i := fun i i0 i3 i4 i5 => by rw [w1 i i0, zup_n i5, zup_n i4, zup_n i3]
  have hW' := yW_start (p1 := 1 + a) (p2 := l) hW
  have e : y_start S (1 + a) l = (0, S.1, S.2.1, S.2.2.1, 1 + a, l, ((yC S.1 S.2.1).length : Int), 0, (fun j => ((yC S.1 S.2.1).getD j.toNat (0, 0, 0, 0)).1), (fun _ => -1), fun _ => 0) := by
    unfold y_start
    rw [if_neg (by omega), if_neg (by omega)]
  have ec : f_L_call S 13 (1 + a) l 0 = some (0, (y_start S (1 + a) l).2) := yl_13 (by omega) (by omega) (by rw [e])
  have q1 : (y_start S (1 + a) l).2.1 = S.1 := by rw [e]
  have q2 : (y_start S (1 + a) l).2.2.1 = S.2.1 := by rw [e]
  have q3 : (y_start S (1 + a) l).2.2.2.1 = S.2.2.1 := by rw [e]
  have m1 : (y_start S (1 + a) l).2.2.2.2.1 = 1 + a := by rw [e]
  have m3 : (y_start S (1 + a) l).2.2.2.2.2.2.1 = ((yC S.1 S.2.1).length : Int) := by rw [e]
  have m4 : (y_start S (1 + a) l).2.2.2.2.2.2.2.1 = 0 := by rw [e]
  have m6 : ∀ h, (y_start S (1 + a) l).2.2.2.2.2.2.2.2.2.1 h = -1 := by intro h; rw [e]
  have m7 : ∀ h, (y_start S (1 + a) l).2.2.2.2.2.2.2.2.2.2 h = 0 := by intro h; rw [e]
  generalize (y_start S (1 + a) l).2 = S' at *
  have hs : y_sewn S' 0 = (0, 0) := by rw [yq_sewn (by rw [m1]; omega), m7]
  refine ⟨S', dw, ?_, hW', ?_, ?_, ?_, ?_, ?_, ?_, ?_, ?_⟩
  · unfold f_L_machine_20
    rw [ea, zb1_e, zlt_e, zlt_e, zlt_e, zlt_e, eL, zb2_e, el, zb1_e, k3, yl_both ec (by decide), zb3_e, zck_t (by decide), if_pos rfl, zlt_e, hs, zck_t rfl]
    dsimp only
    rw [zck_t (by decide), if_pos rfl]
  · rw [ko 0 (by omega) (by omega) (by omega) (by omega), q1]; exact d0
  · rw [ko 1 (by omega) (by omega) (by omega) (by omega), q2]; exact d1
  · rw [ko 2 (by omega) (by omega) (by omega) (by omega), q3]; exact d2
  · rw [k3, m1]
  · intro _
    refine ⟨by rw [k4, m3], by rw [k5, m4], fun i i0 i1 => ?_⟩
    rw [m1] at i1
    rw [m6, w2 _ (by omega) (by omega)]
  · intro g g0 g1
    rw [q1] at g1 ⊢
    rw [ko (6 + g) (by omega) (by omega) (by omega) (by omega), ko (14 + g) (by omega) (by omega) (by omega) (by omega)]
    exact d5 g g0 g1
  · intro g g0 g1
    rw [q1] at g0
    rw [ko (6 + g) (by omega) (by omega) (by omega) (by omega)]
    exact d5z g g0 g1
  · intro i i0 i1
    rw [m7]
    omega
theorem yl_run {S : yS} {dv : Int → Int} {B hd c : Int} (h : yLv S dv B) (hB : 0 ≤ B ∧ B ≤ 2000000) (hh : 0 ≤ hd ∧ hd < S.2.2.2.1) (hc : 1 ≤ c ∧ c ≤ 60) : ∃ S' dv', (zb3 (f_L_both S S 14 c 0 0) fun r118 s119 s120 =>
        zlt (zup dv 5 ((dv 5) + r118)) fun a122 =>
        zck (0 ≤ (22 + hd) ∧ (22 + hd) < 26) <|
        zck (zR (a122 (22 + hd))) <|
        if (a122 (22 + hd)) = (-1) then
          f_L_machine_176 s119 s120 a122 hd (S.2.2.2.2.2.2.2.2.2 hd) c r118 1
        else
          f_L_machine_176 s119 s120 a122 hd (S.2.2.2.2.2.2.2.2.2 hd) c r118 0) = some (1, S', S', dv') ∧ yLv S' dv' (B + 20000) := by
  obtain ⟨hW, d0, d1, d2, d3, d4, d5, d5z, d6⟩ := id h
  have hn : 0 ≤ S.1.1 ∧ S.1.1 ≤ 8 := hW.1.1.1
  obtain ⟨n1, n2, n3, n4, n5, n6⟩ := hW.2.2.2
  obtain ⟨x1, x2, x3⟩ := d4 (by omega)
  have hR := yRun_ok (hc := S.2.2.2.1) (la := S.2.2.2.2.1) (cc := S.2.2.2.2.2.1) (ki := S.2.2.2.2.2.2.2.1) (bk := S.2.2.2.2.2.2.2.2.1) c.toNat S.2.2.2.2.2.2.1 S.2.2.2.2.2.2.2.2.2 n4.2
  have hW' := yW_run (p1 := c) hW
  have e : y_run S c = (0, (yRun S.2.2.2.1 S.2.2.2.2.1 S.2.2.2.2.2.1 S.2.2.2.2.2.2.2.1 S.2.2.2.2.2.2.2.2.1 c.toNat S.2.2.2.2.2.2.1 S.2.2.2.2.2.2.2.2.2).1 - S.2.2.2.2.2.2.1, S.1, S.2.1, S.2.2.1, S.2.2.2.1, S.2.2.2.2.1, S.2.2.2.2.2.1, (yRun S.2.2.2.1 S.2.2.2.2.1 S.2.2.2.2.2.1 S.2.2.2.2.2.2.2.1 S.2.2.2.2.2.2.2.2.1 c.toNat S.2.2.2.2.2.2.1 S.2.2.2.2.2.2.2.2.2).1, S.2.2.2.2.2.2.2.1, S.2.2.2.2.2.2.2.2.1, (yRun S.2.2.2.1 S.2.2.2.2.1 S.2.2.2.2.2.1 S.2.2.2.2.2.2.2.1 S.2.2.2.2.2.2.2.2.1 c.toNat S.2.2.2.2.2.2.1 S.2.2.2.2.2.2.2.2.2).2) := by
    unfold y_run
    rw [if_neg (by omega), if_neg (by omega)]
  have ec : f_L_call S 14 c 0 0 = some ((y_run S c).2.1, (y_run S c).2.2) := yl_14 (by omega) (by rw [e])
  generalize yRun S.2.2.2.1 S.2.2.2.2.1 S.2.2.2.2.2.1 S.2.2.2.2.2.2.2.1 S.2.2.2.2.2.2.2.2.1 c.toNat S.2.2.2.2.2.2.1 S.2.2.2.2.2.2.2.2.2 = R at *
  obtain ⟨⟨R1, R2, R3⟩, R4⟩ := hR
  have hcc : ((c.toNat : Nat) : Int) = c := by omega
  rw [hcc] at R3
  have q0 : (y_run S c).2.1 = R.1 - S.2.2.2.2.2.2.1 := by rw [e]
  have q1 : (y_run S c).2.2.1 = S.1 := by rw [e]
  have q2 : (y_run S c).2.2.2.1 = S.2.1 := by rw [e]
  have q3 : (y_run S c).2.2.2.2.1 = S.2.2.1 := by rw [e]
  have m1 : (y_run S c).2.2.2.2.2.1 = S.2.2.2.1 := by rw [e]
  have m3 : (y_run S c).2.2.2.2.2.2.2.1 = S.2.2.2.2.2.1 := by rw [e]
  have m4 : (y_run S c).2.2.2.2.2.2.2.2.1 = R.1 := by rw [e]
  have m6 : (y_run S c).2.2.2.2.2.2.2.2.2.2.1 = S.2.2.2.2.2.2.2.2.1 := by rw [e]
  have m7 : (y_run S c).2.2.2.2.2.2.2.2.2.2.2 = R.2 := by rw [e]
  rw [q0] at ec
  generalize (y_run S c).2.2 = S' at *
  have hsw := R4 hd
  have hsb := d6 hd hh.1 hh.2
  have hbd := x3 hd hh.1 hh.2
  have hbk := n6 hd hh.1 hh.2
  have hs : y_sewn S' hd = (0, R.2 hd) := by rw [yq_sewn (by rw [m1]; exact hh), m7]
  have d55 : zup dv 5 (dv 5 + (R.1 - S.2.2.2.2.2.2.1)) 5 = R.1 := by rw [zup_s]; omega
  have d5n : ∀ i, i ≠ 5 → zup dv 5 (dv 5 + (R.1 - S.2.2.2.2.2.2.1)) i = dv i := fun i z => zup_n z
  obtain ⟨dw, edw⟩ : ∃ dw, dw = zup dv 5 (dv 5 + (R.1 - S.2.2.2.2.2.2.1)) := ⟨_, rfl⟩
  rw [← edw] at d55 d5n
  have hR2 : zR (R.2 hd) := by
    split at hsw <;> omega
  have fin : ∀ s2, R.2 hd ≤ S.2.2.2.2.2.2.2.2.2 hd + s2 → (0 ≤ s2 ∧ s2 ≤ 100000) → f_L_machine_218 S' S' dw hd (S.2.2.2.2.2.2.2.2.2 hd) (R.2 hd) (S.2.2.2.2.2.2.2.2.2 hd) s2 = some (1, S', S', dw) := by
    intro s2 g g2
    unfold f_L_machine_218
    rw [zck_t (by omega), if_neg (by omega), zck_t (by omega), zlt_e, hs, zck_t rfl]
    dsimp only
    rw [zck_t (by omega), if_neg (by omega)]
  refine ⟨S', dw, ?_, hW', ?_, ?_, ?_, ?_, ?_, ?_, ?_, ?_⟩
  · have hdn := d5n (22 + hd) (by omega)
    have hd4 := d5n 4 (by omega)
    rw [yl_both ec (by omega), zb3_e, zlt_e, ← edw]
    rw [zck_t (by omega), zck_t (by omega)]
    unfold f_L_machine_176
    by_cases z : dw (22 + hd) = -1
    · rw [if_pos z, zck_t (by omega), if_neg (by omega), zck_t (by omega), if_neg (by omega), zck_t (by omega), if_neg (by omega), zck_t (by omega), zlt_e, hs, zck_t rfl, zck_t (by decide), if_neg (by decide)]
      rw [if_pos (by omega)] at hsw
      exact fin _ (by omega) (by omega)
    · rw [if_neg z, zck_t (by omega), if_neg (by omega), zck_t (by omega), if_neg (by omega), zck_t (by omega), if_neg (by omega), zck_t (by omega), zlt_e, hs, zck_t rfl, zck_t (by decide), if_pos rfl]
      rw [if_neg (by omega)] at hsw
      exact fin _ (by omega) (by omega)
  · rw [d5n 0 (by omega), q1]; exact d0
  · rw [d5n 1 (by omega), q2]; exact d1
  · rw [d5n 2 (by omega), q3]; exact d2
  · rw [d5n 3 (by omega), m1]; exact d3
  · intro _
    rw [d5n 4 (by omega), d55, m3, m4, m1, m6]
    refine ⟨x1, rfl, fun i i0 i1 => ?_⟩
    rw [d5n (22 + i) (by omega)]
    exact x3 i i0 i1
  · intro g g0 g1
    rw [q1] at g1 ⊢
    rw [d5n (6 + g) (by omega), d5n (14 + g) (by omega)]
    exact d5 g g0 g1
  · intro g g0 g1
    rw [q1] at g0
    rw [d5n (6 + g) (by omega)]
    exact d5z g g0 g1
  · intro i i0 i1
    rw [m1] at i1
    rw [m7]
    have hi := d6 i i0 i1
    have hr := R4 i
    split at hr <;> omega
theorem yl_machine {S : yS} {dv : Int → Int} {B p3 p4 : Int} (h : yLv S dv B) (hB : 0 ≤ B ∧ B ≤ 2000000) : ∃ S' dv', f_L_machine S S dv p3 p4 = some (1, S', S', dv') ∧ yLv S' dv' (B + 20000) := by
  obtain ⟨hW, d0, d1, d2, d3, d4, d5, d5z, d6⟩ := id h
  have hn : 0 ≤ S.1.1 ∧ S.1.1 ≤ 8 := hW.1.1.1
  obtain ⟨n1, n2, n3, n4, n5, n6⟩ := hW.2.2.2
  obtain ⟨how, eh, h0, h1⟩ := yl_some (x := p3) (n := 8) (by omega)
  have up : yLv S dv (B + 20000) := ⟨hW, d0, d1, d2, d3, d4, d5, d5z, fun i i0 i1 => by have := d6 i i0 i1; omega⟩
  unfold f_L_machine
  rw [eh, zb1_e, zck_t (by omega)]
  by_cases c1 : how < 1
  · rw [if_pos c1]
    exact yl_start h hB
  rw [if_neg c1, zck_t (by omega)]
  by_cases c2 : dv 3 = 0
  · rw [if_pos c2]
    exact yl_start h hB
  rw [if_neg c2]
  obtain ⟨hd, ed, hd0, hd1⟩ := yl_some (x := p4) (n := dv 3) (by omega)
  have hh : 0 ≤ hd ∧ hd < S.2.2.2.1 := by omega
  obtain ⟨x1, x2, x3⟩ := d4 (by omega)
  have hsb := d6 hd hh.1 hh.2
  have hbd := x3 hd hh.1 hh.2
  have hbk := n6 hd hh.1 hh.2
  have hs : y_sewn S hd = (0, S.2.2.2.2.2.2.2.2.2 hd) := yq_sewn hh
  rw [ed, zb1_e, zck_t (by omega), zlt_e, hs, zck_t rfl]
  dsimp only
  rw [zlt_e, zck_t (by omega)]
  by_cases c3 : 5 ≤ how
  · rw [if_pos c3, zck_t (by omega)]
    by_cases c4 : 6 ≤ how
    · rw [if_pos c4]
      by_cases full : qSn S.2.2.2.2.1 S.2.2.2.2.2.1 S.2.2.2.2.2.2.1 S.2.2.2.2.2.2.2.2.1 hd = 1
      · have hbk2 : ¬ S.2.2.2.2.2.2.2.2.1 hd = -1 := by
          intro q
          unfold qSn at full
          rw [if_pos q] at full
          omega
        have hyb := yBet_b (k := S.2.2.2.2.2.2.2.1) (a := max 0 (S.2.2.2.2.2.2.2.2.1 hd - 3)) (b := S.2.2.2.2.2.2.1) (by omega)
        have hW' := yW_mend (p1 := hd) hW
        have e : y_mend S hd = (0, yBet S.2.2.2.2.2.2.2.1 (max 0 (S.2.2.2.2.2.2.2.2.1 hd - 3)) S.2.2.2.2.2.2.1, S.1, S.2.1, S.2.2.1, S.2.2.2.1, S.2.2.2.2.1, S.2.2.2.2.2.1, S.2.2.2.2.2.2.1, S.2.2.2.2.2.2.2.1, zup S.2.2.2.2.2.2.2.2.1 hd (-1), zup S.2.2.2.2.2.2.2.2.2 hd (S.2.2.2.2.2.2.2.2.2 hd + yBet S.2.2.2.2.2.2.2.1 (max 0 (S.2.2.2.2.2.2.2.2.1 hd - 3)) S.2.2.2.2.2.2.1)) := by
          unfold y_mend
          rw [if_neg (by omega), if_neg (not_not_intro full)]
        have ec : f_L_call S 16 hd 0 0 = some ((y_mend S hd).2.1, (y_mend S hd).2.2) := yl_16 (by omega) (by rw [e])
        generalize yBet S.2.2.2.2.2.2.2.1 (max 0 (S.2.2.2.2.2.2.2.2.1 hd - 3)) S.2.2.2.2.2.2.1 = T at *
        have q0 : (y_mend S hd).2.1 = T := by rw [e]
        have q1 : (y_mend S hd).2.2.1 = S.1 := by rw [e]
        have q2 : (y_mend S hd).2.2.2.1 = S.2.1 := by rw [e]
        have q3 : (y_mend S hd).2.2.2.2.1 = S.2.2.1 := by rw [e]
        have m1 : (y_mend S hd).2.2.2.2.2.1 = S.2.2.2.1 := by rw [e]
        have m3 : (y_mend S hd).2.2.2.2.2.2.2.1 = S.2.2.2.2.2.1 := by rw [e]
        have m4 : (y_mend S hd).2.2.2.2.2.2.2.2.1 = S.2.2.2.2.2.2.1 := by rw [e]
        have m6 : (y_mend S hd).2.2.2.2.2.2.2.2.2.2.1 = zup S.2.2.2.2.2.2.2.2.1 hd (-1) := by rw [e]
        have m7 : (y_mend S hd).2.2.2.2.2.2.2.2.2.2.2 = zup S.2.2.2.2.2.2.2.2.2 hd (S.2.2.2.2.2.2.2.2.2 hd + T) := by rw [e]
        rw [q0] at ec
        generalize (y_mend S hd).2.2 = S' at *
        have hs' : y_sewn S' hd = (0, S.2.2.2.2.2.2.2.2.2 hd + T) := by rw [yq_sewn (by rw [m1]; exact hh), m7, zup_s]
        have ec2 : f_L_call S' 16 hd 0 0 = some (yCode 2 0, S') := by
          have e2 : y_mend S' hd = (2, 0, S') := by
            unfold y_mend
            rw [if_neg (by rw [m1]; omega), if_pos]
            unfold qSn
            rw [if_pos (by rw [m6, zup_s])]
            decide
          exact yx_16 (by omega) (by rw [e2]) (by decide) (by rw [e2])
        refine ⟨S', zup dv (22 + hd) (-1), ?_, hW', ?_, ?_, ?_, ?_, ?_, ?_, ?_, ?_⟩
        · rw [yl_both ec (by omega), zb3_e, zck_t (by omega), if_neg (by omega), zck_t (by omega), zlt_e, zck_t (by omega), zlt_e, zck_t (by omega), if_neg (by omega), zck_t (by omega), if_neg (by omega), zck_t (by omega), zlt_e, hs', zck_t rfl]
          dsimp only
          rw [zck_t (by omega), if_pos rfl, ec2, zb2_e, zck_t (by decide), if_pos (by decide)]
        · rw [zup_n (by omega), q1]; exact d0
        · rw [zup_n (by omega), q2]; exact d1
        · rw [zup_n (by omega), q3]; exact d2
        · rw [zup_n (by omega), m1]; exact d3
        · intro _
          rw [m1, m3, m4, m6, zup_n (by omega), zup_n (by omega)]
          refine ⟨x1, x2, fun i i0 i1 => ?_⟩
          by_cases z : i = hd
          · rw [z, zup_s, zup_s]
          · rw [zup_n (by omega), zup_n z]
            exact x3 i i0 i1
        · intro g g0 g1
          rw [q1] at g1 ⊢
          rw [zup_n (by omega), zup_n (by omega)]
          exact d5 g g0 g1
        · intro g g0 g1
          rw [q1] at g0
          rw [zup_n (by omega)]
          exact d5z g g0 g1
        · intro i i0 i1
          rw [m1] at i1
          rw [m7]
          by_cases z : i = hd
          · rw [z, zup_s]; omega
          · rw [zup_n z]
            have := d6 i i0 i1
            omega
      · have e : y_mend S hd = (2, 0, S) := by
          unfold y_mend
          rw [if_neg (by omega), if_pos full]
        have ec : f_L_call S 16 hd 0 0 = some (yCode 2 0, S) := yx_16 (by omega) (by rw [e]) (by decide) (by rw [e])
        refine ⟨S, dv, ?_, up⟩
        rw [yl_both ec (by decide), zb3_e, zck_t (by decide), if_pos (by decide), zck_t (by omega), zlt_e, hs, zck_t rfl]
        dsimp only
        rw [zck_t (by omega), if_pos rfl, zck_t (by omega), zck_t (by omega)]
        by_cases z : dv (22 + hd) = -1
        · rw [if_pos z]
          rfl
        · rw [if_neg z, zck_t (by omega)]
          have hlt : ¬ dv 4 ≤ dv 5 := by
            intro q
            apply full
            unfold qSn
            rw [if_neg (by omega)]
            split
            · rfl
            · rw [if_pos (by omega)]
          rw [if_neg hlt]
          rfl
    · rw [if_neg c4]
      by_cases z : S.2.2.2.2.2.2.2.2.1 hd = -1
      · have hW' := yW_breaks (p1 := hd) hW
        have e : y_breaks S hd = (0, S.1, S.2.1, S.2.2.1, S.2.2.2.1, S.2.2.2.2.1, S.2.2.2.2.2.1, S.2.2.2.2.2.2.1, S.2.2.2.2.2.2.2.1, zup S.2.2.2.2.2.2.2.2.1 hd S.2.2.2.2.2.2.1, S.2.2.2.2.2.2.2.2.2) := by
          unfold y_breaks
          rw [if_neg (by omega), if_neg (not_not_intro z)]
        have ec : f_L_call S 15 hd 0 0 = some (0, (y_breaks S hd).2) := yl_15 (by omega) (by rw [e])
        have q1 : (y_breaks S hd).2.1 = S.1 := by rw [e]
        have q2 : (y_breaks S hd).2.2.1 = S.2.1 := by rw [e]
        have q3 : (y_breaks S hd).2.2.2.1 = S.2.2.1 := by rw [e]
        have m1 : (y_breaks S hd).2.2.2.2.1 = S.2.2.2.1 := by rw [e]
        have m3 : (y_breaks S hd).2.2.2.2.2.2.1 = S.2.2.2.2.2.1 := by rw [e]
        have m4 : (y_breaks S hd).2.2.2.2.2.2.2.1 = S.2.2.2.2.2.2.1 := by rw [e]
        have m6 : (y_breaks S hd).2.2.2.2.2.2.2.2.2.1 = zup S.2.2.2.2.2.2.2.2.1 hd S.2.2.2.2.2.2.1 := by rw [e]
        have m7 : (y_breaks S hd).2.2.2.2.2.2.2.2.2.2 = S.2.2.2.2.2.2.2.2.2 := by rw [e]
        generalize (y_breaks S hd).2 = S' at *
        have hs' : y_sewn S' hd = (0, S.2.2.2.2.2.2.2.2.2 hd) := by rw [yq_sewn (by rw [m1]; exact hh), m7]
        refine ⟨S', zup dv (22 + hd) (dv 5), ?_, hW', ?_, ?_, ?_, ?_, ?_, ?_, ?_, ?_⟩
        · rw [yl_both ec (by decide), zb3_e, zck_t (by omega), zck_t (by omega), if_pos (by omega)]
          unfold f_L_machine_275
          rw [zck_t (by decide), if_neg (by decide)]
          unfold f_L_machine_301
          rw [zck_t (by omega), zlt_e, zck_t (by decide), if_neg (by decide)]
          unfold f_L_machine_315
          rw [zck_t (by decide), if_pos rfl, zck_t (by omega), zlt_e, hs', zck_t rfl]
          dsimp only
          rw [zck_t (by omega), if_pos rfl]
        · rw [zup_n (by omega), q1]; exact d0
        · rw [zup_n (by omega), q2]; exact d1
        · rw [zup_n (by omega), q3]; exact d2
        · rw [zup_n (by omega), m1]; exact d3
        · intro _
          rw [m1, m3, m4, m6, zup_n (by omega), zup_n (by omega)]
          refine ⟨x1, x2, fun i i0 i1 => ?_⟩
          by_cases z : i = hd
          · rw [z, zup_s, zup_s]; exact x2
          · rw [zup_n (by omega), zup_n z]
            exact x3 i i0 i1
        · intro g g0 g1
          rw [q1] at g1 ⊢
          rw [zup_n (by omega), zup_n (by omega)]
          exact d5 g g0 g1
        · intro g g0 g1
          rw [q1] at g0
          rw [zup_n (by omega)]
          exact d5z g g0 g1
        · intro i i0 i1
          rw [m1] at i1
          rw [m7]
          have := d6 i i0 i1
          omega
      · have e : y_breaks S hd = (2, S) := by
          unfold y_breaks
          rw [if_neg (by omega), if_pos z]
        have ec : f_L_call S 15 hd 0 0 = some (yCode 2 0, S) := yx_15 (by omega) (by rw [e]) (by decide) (by rw [e])
        have hid : zup dv (22 + hd) (dv (22 + hd)) = dv := by
          have := zup_id (dv := dv) (i := 22 + hd)
          rw [Int.add_zero] at this
          exact this
        refine ⟨S, dv, ?_, up⟩
        rw [yl_both ec (by decide), zb3_e, zck_t (by omega), zck_t (by omega), if_neg (by omega)]
        unfold f_L_machine_275
        rw [zck_t (by decide), if_pos rfl, zck_t (by omega)]
        unfold f_L_machine_301
        rw [zck_t (by omega), hid, zlt_e, zck_t (by decide), if_pos rfl]
        unfold f_L_machine_315
        rw [zck_t (by decide), if_pos (by decide), zck_t (by omega), zlt_e, hs, zck_t rfl]
        dsimp only
        rw [zck_t (by omega), if_pos rfl]
  · rw [if_neg c3]
    obtain ⟨c, ec, g0, g1⟩ := yl_some (x := ysr p4 3) (n := 60) (by omega)
    rw [ec, zb1_e, zlt_e]
    exact yl_run h hB hh (by omega)
