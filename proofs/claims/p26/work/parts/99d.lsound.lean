/-! ===== sound ===== -/
theorem yl_s253 {S : yS} {dv : Int → Int} {N x y st k kd : Int} (hN : 0 ≤ N ∧ N ≤ 16641) (hk : 0 ≤ k ∧ k < N) (hkd : 0 ≤ kd ∧ kd ≤ 4) (h4 : kd = 4 → k = N - 1) : f_L_sound_L39_253 S dv N x y st k kd = some (.inl (x, y, st, 1, k + 1)) := by
  unfold f_L_sound_L39_253 f_L_sound_L39_267
  rw [zck_t (by omega)]
  by_cases z : kd = 4
  · rw [if_pos z, zck_t (by omega), if_pos (h4 z)]
  · rw [if_neg z]
theorem yl_s234 {S : yS} {dv : Int → Int} {N x y st k kd : Int} (hN : 0 ≤ N ∧ N ≤ 16641) (hk : 0 ≤ k ∧ k < N) (hkd : 0 ≤ kd ∧ kd ≤ 4) (h2 : kd = 2 → y_ofCommand S (k + 1) 0 = (0, 1)) (h4 : kd = 4 → k = N - 1) : f_L_sound_L39_234 S dv N x y st k kd = some (.inl (x, y, st, 1, k + 1)) := by
  unfold f_L_sound_L39_234
  rw [zck_t (by omega)]
  by_cases z : kd = 2
  · rw [if_pos z, zck_t (by omega), zlt_e, h2 z, zck_t rfl]
    dsimp only
    rw [zck_t (by decide), if_pos rfl]
    exact yl_s253 hN hk hkd h4
  · rw [if_neg z]
    exact yl_s253 hN hk hkd h4
theorem yl_s202 {S : yS} {dv : Int → Int} {N x y st k kd dx dy : Int} (hN : 0 ≤ N ∧ N ≤ 16641) (hk : 0 ≤ k ∧ k < N) (hkd : 0 ≤ kd ∧ kd ≤ 4) (hd : (-37 ≤ dx ∧ dx ≤ 37) ∧ (-37 ≤ dy ∧ dy ≤ 37)) (h0 : kd = 0 → qG dx dy ≤ 12) (h2 : kd = 2 → y_ofCommand S (k + 1) 0 = (0, 1)) (h4 : kd = 4 → k = N - 1) : f_L_sound_L39_202 S dv N x y st k kd dx dy 1 = some (.inl (x, y, st, 1, k + 1)) := by
  have hg := qG_e dx dy
  unfold f_L_sound_L39_202
  rw [zck_t (by decide), if_neg (by decide), zck_t (by omega)]
  by_cases z : kd = 0
  · have := h0 z
    rw [if_pos z, yl_size (by omega), zb1_e, zck_t (by omega), if_neg (by omega), yl_size (by omega), zb1_e, zck_t (by omega), if_neg (by omega)]
    exact yl_s234 hN hk hkd h2 h4
  · rw [if_neg z]
    exact yl_s234 hN hk hkd h2 h4
theorem yl_step {S : yS} {dv : Int → Int} {n N x y st k : Int} {m : qC} (hn : dv 0 = n ∧ 0 ≤ n ∧ n ≤ 8) (hN : 0 ≤ N ∧ N ≤ 16641) (hk : 0 ≤ k ∧ k < N) (hm : qWf n m) (e : ∀ w, 0 ≤ w ∧ w ≤ 3 → y_ofCommand S k w = (0, yTold m w)) (hb : qBox (x + m.2.1, y + m.2.2.1)) (h2 : m.1 = 2 → y_ofCommand S (k + 1) 0 = (0, 1)) (h4 : m.1 = 4 → k = N - 1) : f_L_sound_L39 S dv N x y st 1 k = some (.inl (x + m.2.1, y + m.2.2.1, st + qIsK 0 m, 1, k + 1)) := by
  obtain ⟨kd, dx, dy, ow⟩ := m
  obtain ⟨w1, w2, w3, w4, w5, w6⟩ := hm
  replace w1 : 0 ≤ kd ∧ kd ≤ 4 := w1
  replace w2 : -37 ≤ dx ∧ dx ≤ 37 := w2
  replace w3 : -37 ≤ dy ∧ dy ≤ 37 := w3
  replace w4 : kd = 0 → qG dx dy ≤ 12 := w4
  replace w5 : kd ≤ 1 → (0 ≤ ow ∧ ow < n) ∧ ¬ qG dx dy = 0 := w5
  replace w6 : 2 ≤ kd → dx = 0 ∧ dy = 0 ∧ ow = -1 := w6
  replace h2 : kd = 2 → y_ofCommand S (k + 1) 0 = (0, 1) := h2
  replace h4 : kd = 4 → k = N - 1 := h4
  replace hb : (-3 ≤ x + dx ∧ x + dx ≤ 34) ∧ (0 ≤ y + dy ∧ y + dy ≤ 31) := hb
  have e0 : y_ofCommand S k 0 = (0, kd) := e 0 (by omega)
  have e1 : y_ofCommand S k 1 = (0, dx) := e 1 (by omega)
  have e2 : y_ofCommand S k 2 = (0, dy) := e 2 (by omega)
  have e3 : y_ofCommand S k 3 = (0, ow) := e 3 (by omega)
  have hg := qG_e dx dy
  have how : -1 ≤ ow ∧ ow ≤ 8 := by
    by_cases z : kd ≤ 1
    · have := w5 z; omega
    · have := w6 (by omega); omega
  show f_L_sound_L39 S dv N x y st 1 k = some (.inl (x + dx, y + dy, st + (if kd = 0 then 1 else 0), 1, k + 1))
  have H : ∀ st', f_L_sound_L39_110 S dv N (x + dx) (y + dy) k kd dx dy ow st st' = some (.inl (x + dx, y + dy, st + st', 1, k + 1)) := by
    intro st'
    unfold f_L_sound_L39_110 f_L_sound_L39_123
    rw [zlt_e, zck_t (by omega)]
    have A0 : 2 ≤ kd → f_L_sound_L39_128 S dv N (x + dx) (y + dy) (st + st') k kd dx dy ow 0 = some (.inl (x + dx, y + dy, st + st', 1, k + 1)) := by
      intro z
      have := w6 z
      unfold f_L_sound_L39_128
      rw [zck_t (by omega), if_pos z, zck_t (by decide), if_pos rfl, zck_t (by omega), if_pos (by omega)]
      exact yl_s202 hN hk w1 ⟨w2, w3⟩ w4 h2 h4
    have A1 : kd < 2 → f_L_sound_L39_128 S dv N (x + dx) (y + dy) (st + st') k kd dx dy ow 1 = some (.inl (x + dx, y + dy, st + st', 1, k + 1)) := by
      intro z
      have := w5 (by omega)
      unfold f_L_sound_L39_128
      rw [zck_t (by omega), if_neg (by omega), zck_t (by decide), if_neg (by decide), zck_t (by omega), if_neg (by omega), zck_t (by omega), if_neg (by omega), zck_t (by omega), if_neg (by omega), zck_t (by omega), if_neg (by omega), zck_t (by omega), if_neg (by omega), zck_t (by omega), if_neg (by omega)]
      exact yl_s202 hN hk w1 ⟨w2, w3⟩ w4 h2 h4
    by_cases z : 2 ≤ kd
    · have := w6 z
      rw [if_pos (by omega), zck_t (by omega), if_pos (by omega)]
      exact A0 z
    · have h1 := w5 (by omega)
      by_cases zx : dx = 0
      · rw [if_pos zx, zck_t (by omega), if_neg (by omega)]
        exact A1 (by omega)
      · rw [if_neg zx]
        exact A1 (by omega)
  unfold f_L_sound_L39
  rw [zck_t (by omega), if_neg (by omega), zck_t (by decide), if_neg (by decide), zck_t (by omega), zlt_e, e0, zck_t rfl, zlt_e, zck_t (by omega), zlt_e, e1, zck_t rfl, zlt_e, zck_t (by omega), zlt_e, e2, zck_t rfl, zlt_e, zck_t (by omega), zlt_e, e3, zck_t rfl, zlt_e, zlt_e, zlt_e]
  dsimp only
  rw [zck_t (by omega)]
  by_cases z : kd = 0
  · rw [if_pos z, H, if_pos z]
  · rw [if_neg z, H, if_neg z]
theorem yl_sound {S : yS} {dv : Int → Int} {B : Int} (h : yLv S dv B) : f_L_sound S dv = some 1 := by
  obtain ⟨hW, d0, d1, d2, d3, d4, d5, d5z, d6⟩ := id h
  obtain ⟨hp, hl, hwf, -⟩ := yC_ok hW.1 hW.2.1
  obtain ⟨C', hC, h3, hbx, htj⟩ := yC_pl hW.1 hW.2.1
  have hn : 0 ≤ S.1.1 ∧ S.1.1 ≤ 8 := hW.1.1.1
  have hc : y_commands S = ((yC S.1 S.2.1).length : Int) := rfl
  have hlen : (yC S.1 S.2.1).length = C'.length + 1 := by rw [hC, List.length_append]; rfl
  have hend : (yC S.1 S.2.1)[C'.length]? = some (4, 0, 0, -1) := by rw [hC, List.getElem?_append_right (Nat.le_refl _), Nat.sub_self]; rfl
  have hL : ∃ r, zlp (fun z : Int × Int × Int × Int × Int => f_L_sound_L39 S dv ((yC S.1 S.2.1).length : Int) z.1 z.2.1 z.2.2.1 z.2.2.2.1 z.2.2.2.2) zFU (0, 0, 0, 1, 0) = some r ∧ (r.2.2.1 = qSum (qIsK 0) (yC S.1 S.2.1) ∧ r.2.2.2.1 = 1) := by
    refine zlp_for (fun s : Int × Int × Int × Int × Int => s.2.2.2.2) (lo := 0) (hi := ((yC S.1 S.2.1).length : Int)) (fun j s => s.1 = (qEnd (0, 0) ((yC S.1 S.2.1).take j.toNat)).1 ∧ s.2.1 = (qEnd (0, 0) ((yC S.1 S.2.1).take j.toNat)).2 ∧ s.2.2.1 = qSum (qIsK 0) ((yC S.1 S.2.1).take j.toNat) ∧ s.2.2.2.1 = 1) _ (by omega) (by omega) ?_ ?_ (0, 0, 0, 1, 0) rfl ⟨rfl, rfl, rfl, rfl⟩
    · intro s j0 j1 hR
      obtain ⟨x, y, st, is, j⟩ := s
      replace j0 : 0 ≤ j := j0
      replace j1 : j < ((yC S.1 S.2.1).length : Int) := j1
      obtain ⟨k, rfl⟩ : ∃ k : Nat, j = (k : Int) := ⟨j.toNat, by omega⟩
      have hkl : k < (yC S.1 S.2.1).length := by omega
      obtain ⟨m, hm⟩ : ∃ m, (yC S.1 S.2.1)[k]? = some m := ⟨_, List.getElem?_eq_getElem hkl⟩
      have hmm : m ∈ yC S.1 S.2.1 := List.mem_iff_getElem?.mpr ⟨k, hm⟩
      obtain ⟨r1, r2, r3, r4⟩ := hR
      replace r1 : x = (qEnd (0, 0) ((yC S.1 S.2.1).take ((k : Int)).toNat)).1 := r1
      replace r2 : y = (qEnd (0, 0) ((yC S.1 S.2.1).take ((k : Int)).toNat)).2 := r2
      replace r3 : st = qSum (qIsK 0) ((yC S.1 S.2.1).take ((k : Int)).toNat) := r3
      replace r4 : is = 1 := r4
      rw [show ((k : Int).toNat) = k by omega] at r1 r2 r3
      have ht : (yC S.1 S.2.1).take (k + 1) = (yC S.1 S.2.1).take k ++ [m] := by rw [List.take_add_one, hm]; rfl
      have hE : qEnd (0, 0) ((yC S.1 S.2.1).take (k + 1)) = (x + m.2.1, y + m.2.2.1) := by
        rw [ht, qEnd_app, r1, r2]
        rfl
      have hbk : qBox (x + m.2.1, y + m.2.2.1) := by rw [← hE]; exact yBx_take hbx (k + 1)
      have hkd4 : m.1 = 4 → (k : Int) = ((yC S.1 S.2.1).length : Int) - 1 := by
        intro z
        rcases Nat.lt_or_ge k C'.length with q | q
        · rw [hC, List.getElem?_append_left q] at hm
          have := h3 m (List.mem_iff_getElem?.mpr ⟨k, hm⟩)
          omega
        · omega
      have hkd2 : m.1 = 2 → y_ofCommand S ((k : Int) + 1) 0 = (0, 1) := by
        intro z
        obtain ⟨m', e1, e2⟩ := yTJ_at htj k m hm z
        have := yq_of4 (S := S) e1 (w := 0) (by omega)
        rw [show (((k + 1 : Nat)) : Int) = (k : Int) + 1 by omega] at this
        rw [this]
        show (0, m'.1) = ((0, 1) : Int × Int)
        rw [e2]
      have hs := yl_step (S := S) (dv := dv) (n := S.1.1) (N := ((yC S.1 S.2.1).length : Int)) (x := x) (y := y) (st := st) (k := k) (m := m) ⟨d0, hn⟩ (by omega) (by omega) (hwf m hmm) (fun w hw => yq_of4 hm hw) hbk hkd2 hkd4
      subst r4
      refine ⟨(x + m.2.1, y + m.2.2.1, st + qIsK 0 m, 1, (k : Int) + 1), hs, rfl, ?_, ?_, ?_, rfl⟩
      · show x + m.2.1 = (qEnd (0, 0) ((yC S.1 S.2.1).take ((k : Int) + 1).toNat)).1
        rw [show ((k : Int) + 1).toNat = k + 1 by omega, hE]
      · show y + m.2.2.1 = (qEnd (0, 0) ((yC S.1 S.2.1).take ((k : Int) + 1).toNat)).2
        rw [show ((k : Int) + 1).toNat = k + 1 by omega, hE]
      · show st + qIsK 0 m = qSum (qIsK 0) ((yC S.1 S.2.1).take ((k : Int) + 1).toNat)
        rw [show ((k : Int) + 1).toNat = k + 1 by omega, ht, qSum_app, r3]
    · intro s j0 hR
      obtain ⟨x, y, st, is, j⟩ := s
      replace j0 : j = ((yC S.1 S.2.1).length : Int) := j0
      obtain ⟨-, -, r3, r4⟩ := hR
      replace r3 : st = qSum (qIsK 0) ((yC S.1 S.2.1).take (((yC S.1 S.2.1).length : Nat) : Int).toNat) := r3
      rw [show ((((yC S.1 S.2.1).length : Nat) : Int).toNat) = (yC S.1 S.2.1).length by omega, List.take_length] at r3
      refine ⟨(x, y, st, is, j), ?_, r3, r4⟩
      show f_L_sound_L39 S dv ((yC S.1 S.2.1).length : Int) x y st is j = _
      unfold f_L_sound_L39
      rw [zck_t (by omega), if_pos (by omega)]
  obtain ⟨⟨a1, a2, a3, a4, a5⟩, eL, r3, r4⟩ := hL
  replace r3 : a3 = qSum (qIsK 0) (yC S.1 S.2.1) := r3
  replace r4 : a4 = 1 := r4
  have c0 : y_count S 0 = (0, qSum (qIsK 0) (yC S.1 S.2.1)) := by unfold y_count; rw [if_neg (by omega)]
  have c4 : y_count S 4 = (0, 1) := by
    unfold y_count
    rw [if_neg (by omega), hC, qSum_app2, qSum_cons, qSum_nil]
    have h0 := qSum_b (g := qIsK 4) (M := 0) (C := C') (Int.le_refl 0) (fun m hm => by
      have := h3 m hm
      unfold qIsK
      rw [if_neg (by omega)]
      omega)
    rw [Int.zero_mul] at h0
    rw [show qIsK 4 ((4, 0, 0, -1) : qC) = 1 from rfl, show qSum (qIsK 4) C' = 0 by omega]
    rfl
  have hs0 := qSum_b (g := qIsK 0) (M := 1) (C := yC S.1 S.2.1) (by omega) (fun m hm => qIsK_b)
  have ht := yfc_nn (qSec_p (yC S.1 S.2.1))
  have elast : y_ofCommand S (((yC S.1 S.2.1).length : Int) - 1) 0 = (0, 4) := by
    have := yq_of4 (S := S) hend (w := 0) (by omega)
    rw [show ((yC S.1 S.2.1).length : Int) - 1 = ((C'.length : Nat) : Int) by omega]
    exact this
  unfold f_L_sound
  rw [zlt_e, hc, zck_t (by omega), if_neg (by omega), zck_t (by omega), zlt_e, elast, zck_t rfl]
  dsimp only
  rw [zck_t (by decide), if_pos rfl]
  unfold f_L_sound_34
  rw [eL, zb5_e]
  unfold f_L_sound_280
  rw [r4, zck_t (by decide), if_neg (by decide), zlt_e, c0, zck_t rfl]
  dsimp only
  rw [zck_t (by omega), if_pos r3.symm, zlt_e, c4, zck_t rfl]
  dsimp only
  rw [zck_t (by decide), if_pos rfl, zlt_e, zck_t yfc_R]
  unfold y_time
  rw [if_neg (by omega)]
