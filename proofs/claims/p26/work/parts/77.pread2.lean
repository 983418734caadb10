/-! ===== the whole file is read; fault, reads, shorten ===== -/
def qAf (n : Int) (b : Int → Int) (p : Int) : Int := if n ≤ p then n else if b p = qCt b p % 256 then (if n ≤ p + 1 then -1 else p + 1) else p
def qWd (fm : Int) : Int := if fm = 0 then 2 else 3
def qRd (n fm : Int) (b : Int → Int) : Nat → Int → Int → Int × Int
  | 0, _, st => (n, st)
  | k + 1, p, st => if n ≤ p then (n, st) else if qWr n fm b p = -1 then (if qKd fm b p = 4 then (qAf n b (p + qWd fm), st) else qRd n fm b k (p + qWd fm) (if qKd fm b p = 0 then st + 1 else st)) else (qWr n fm b p, st)
theorem qRd_succ (n fm : Int) (b : Int → Int) (k : Nat) (p st : Int) : qRd n fm b (k + 1) p st = if n ≤ p then (n, st) else if qWr n fm b p = -1 then (if qKd fm b p = 4 then (qAf n b (p + qWd fm), st) else qRd n fm b k (p + qWd fm) (if qKd fm b p = 0 then st + 1 else st)) else (qWr n fm b p, st) := rfl
theorem qRd_end {n fm p st : Int} {b : Int → Int} {k : Nat} (h : n ≤ p) : qRd n fm b k p st = (n, st) := by
  cases k with
  | zero => rfl
  | succ k =>
    unfold qRd
    rw [if_pos h]
theorem qWr_in {n fm p : Int} {b : Int → Int} (hfm : fm = 0 ∨ fm = 1) (hn : 0 ≤ n) (hp : 0 ≤ p) (h : qWr n fm b p = -1) : p + qWd fm ≤ n := by
  unfold qWr at h
  unfold qWd
  rcases hfm with q | q
  · subst q
    rw [if_pos rfl]
    rw [if_pos rfl] at h
    split at h
    · omega
    · split at h
      · omega
      · split at h
        · omega
        · split at h
          · omega
          · omega
  · subst q
    rw [if_neg (by decide)]
    rw [if_neg (show ¬ (1 : Int) = 0 by decide)] at h
    split at h
    · omega
    · split at h
      · omega
      · split at h
        · omega
        · split at h
          · omega
          · split at h
            · omega
            · omega
theorem qWr_b {n fm p : Int} {b : Int → Int} (hn : 0 ≤ n ∧ n ≤ 49924) (hp : 0 ≤ p ∧ p ≤ 60000) : -1 ≤ qWr n fm b p ∧ qWr n fm b p ≤ 60002 := by
  unfold qWr
  repeat' split
  all_goals omega
theorem qAf_b {n p : Int} {b : Int → Int} (hn : 0 ≤ n ∧ n ≤ 49924) (hp : 0 ≤ p ∧ p ≤ 60000) : -1 ≤ qAf n b p ∧ qAf n b p ≤ 60002 := by
  unfold qAf
  repeat' split
  all_goals omega
theorem qRd_b {n fm : Int} {b : Int → Int} (hfm : fm = 0 ∨ fm = 1) (hn : 0 ≤ n ∧ n ≤ 49924) (k : Nat) : ∀ p st, 0 ≤ p → p ≤ n + 3 → 0 ≤ st → st ≤ p → (-1 ≤ (qRd n fm b k p st).1 ∧ (qRd n fm b k p st).1 ≤ 60002) ∧ (0 ≤ (qRd n fm b k p st).2 ∧ (qRd n fm b k p st).2 ≤ 60002) := by
  induction k with
  | zero =>
    intro p st h0 h1 h2 h3
    show (-1 ≤ n ∧ n ≤ 60002) ∧ (0 ≤ st ∧ st ≤ 60002)
    omega
  | succ k ih =>
    intro p st h0 h1 h2 h3
    have hw : qWd fm = 2 ∨ qWd fm = 3 := by
      unfold qWd
      split <;> omega
    have hb := qWr_b (fm := fm) (b := b) (p := p) hn (by omega)
    have ha := qAf_b (b := b) (p := p + qWd fm) hn (by omega)
    unfold qRd
    by_cases c1 : n ≤ p
    · rw [if_pos c1]
      show (-1 ≤ n ∧ n ≤ 60002) ∧ (0 ≤ st ∧ st ≤ 60002)
      omega
    · rw [if_neg c1]
      by_cases c2 : qWr n fm b p = -1
      · rw [if_pos c2]
        by_cases c3 : qKd fm b p = 4
        · rw [if_pos c3]
          show (-1 ≤ qAf n b (p + qWd fm) ∧ qAf n b (p + qWd fm) ≤ 60002) ∧ (0 ≤ st ∧ st ≤ 60002)
          omega
        · rw [if_neg c3]
          by_cases c4 : qKd fm b p = 0
          · rw [if_pos c4]
            exact ih _ _ (by omega) (by omega) (by omega) (by omega)
          · rw [if_neg c4]
            exact ih _ _ (by omega) (by omega) (by omega) (by omega)
      · rw [if_neg c2]
        show (-1 ≤ qWr n fm b p ∧ qWr n fm b p ≤ 60002) ∧ (0 ≤ st ∧ st ≤ 60002)
        omega
theorem qWr_congr {n fm p : Int} {b c : Int → Int} (h : ∀ j, 0 ≤ j → j < n → b j = c j) (hp : 0 ≤ p) : qWr n fm b p = qWr n fm c p ∧ (p < n → qKd fm b p = qKd fm c p) := by
  by_cases c1 : n ≤ p
  · refine ⟨?_, fun z => by omega⟩
    unfold qWr
    rw [if_pos c1, if_pos c1]
  · have e0 := h p hp (by omega)
    have ek : qKd fm b p = qKd fm c p := by unfold qKd; rw [e0]
    refine ⟨?_, fun _ => ek⟩
    unfold qWr
    rw [if_neg c1, if_neg c1, ek, e0]
    by_cases c2 : n ≤ p + 1
    · simp only [if_pos c2]
    · rw [h (p + 1) (by omega) (by omega)]
      by_cases c3 : n ≤ p + 2
      · simp only [if_pos c3]
      · rw [h (p + 2) (by omega) (by omega)]
theorem qRd_congr {n fm : Int} {b c : Int → Int} (h : ∀ j, 0 ≤ j → j < n → b j = c j) (k : Nat) : ∀ p st, 0 ≤ p → qRd n fm b k p st = qRd n fm c k p st := by
  induction k with
  | zero => intro p st _; rfl
  | succ k ih =>
    intro p st hp
    have hw : 0 ≤ qWd fm := by
      unfold qWd
      split <;> omega
    obtain ⟨e1, e2⟩ := qWr_congr (fm := fm) h hp
    unfold qRd
    by_cases c1 : n ≤ p
    · rw [if_pos c1, if_pos c1]
    · rw [if_neg c1, if_neg c1, e1, e2 (by omega), ih _ _ (by omega)]
      have ea : qAf n b (p + qWd fm) = qAf n c (p + qWd fm) := by
        unfold qAf
        by_cases c2 : n ≤ p + qWd fm
        · rw [if_pos c2, if_pos c2]
        · have ec := qCt_congr (a := b) (b := c) (p + qWd fm).toNat (fun v v0 v1 => h v v0 (by omega))
          rw [show (((p + qWd fm).toNat : Nat) : Int) = p + qWd fm by omega] at ec
          rw [if_neg c2, if_neg c2, h (p + qWd fm) (by omega) (by omega), ec]
      rw [ea]
theorem pE_wrongOut {n fm p : Int} {b : Int → Int} (hn : 0 ≤ n ∧ n ≤ 49924) (hp : 0 ≤ p ∧ p ≤ 60000) (hfm : fm = 0 ∨ fm = 1) (c : n ≤ p) : f_X2_wrongWithin b n fm p = some n := by
  have hk : f_X2_kindAt b n fm p = some 4 := by
    unfold f_X2_kindAt
    rw [pE_has hn (by omega), if_neg (by omega)]
    simp (disch := omega) only [zck_t, if_true, zb1_e]
  have h0 : f_X2_wrongWithin_L8 b n fm p 4 0 = some (.inr (.inr n)) := by
    have hw : f_X2_bytesOfCommand fm = some (if fm = 0 then 2 else 3) := by
      unfold f_X2_bytesOfCommand
      rcases hfm with q | q <;> subst q <;> rfl
    have hh : f_X2_has n (p + 0) = some 0 := by
      rw [pE_has hn (by omega), if_neg (by omega)]
    unfold f_X2_wrongWithin_L8
    rw [hw]
    rcases hfm with q | q
    · subst q
      simp (disch := omega) only [zck_t, if_neg, if_true, zb1_e, zlt, hh]
    · subst q
      simp (disch := omega) only [zck_t, if_neg, if_true, zb1_e, zlt, hh]
  unfold f_X2_wrongWithin
  rw [hk]
  simp only [zb1_e]
  rw [zFU_4, zlp_2 h0]
  rfl
theorem pE_inspect {n fm f0 s0 : Int} {b : Int → Int} (hfm : fm = 0 ∨ fm = 1) (hn : 0 ≤ n ∧ n ≤ 49924) (hb : ∀ j, 0 ≤ j → j < n → 0 ≤ b j ∧ b j ≤ 255) : f_X2_inspect b n fm f0 s0 = some (qRd n fm b n.toNat 0 0) := by
  have hwd : f_X2_bytesOfCommand fm = some (qWd fm) := by
    unfold f_X2_bytesOfCommand qWd
    rcases hfm with q | q <;> subst q <;> rfl
  have hw : qWd fm = 2 ∨ qWd fm = 3 := by
    unfold qWd
    split <;> omega
  have hwd1 : 1 ≤ qWd fm ∧ qWd fm ≤ 3 := by omega
  have H : ∃ r, zlp (fun z => f_X2_inspect_L20 b n fm (qWd fm) z.1 z.2.1 z.2.2) zFU (0, n, 0) = some r ∧ ((∃ v, r = .inl (v, (qRd n fm b n.toNat 0 0).1, (qRd n fm b n.toNat 0 0).2)) ∨ r = .inr (qRd n fm b n.toNat 0 0)) := by
    refine zlp_rule (fun s : Int × Int × Int => ∃ p, s.1 * qWd fm = p ∧ 0 ≤ s.1 ∧ s.1 ≤ p ∧ p ≤ n + 3 ∧ s.2.1 = n ∧ (0 ≤ s.2.2 ∧ s.2.2 ≤ p) ∧ ∃ k : Nat, n - p ≤ k ∧ qRd n fm b k p s.2.2 = qRd n fm b n.toNat 0 0) _ (fun s => (n - s.1).toNat) ?_ zFU (0, n, 0) ⟨0, by show (0 : Int) * qWd fm = 0; exact Int.zero_mul _, by show (0 : Int) ≤ 0; omega, by show (0 : Int) ≤ 0; omega, by omega, rfl, ⟨by show (0 : Int) ≤ 0; omega, by show (0 : Int) ≤ 0; omega⟩, n.toNat, by show n - 0 ≤ _; omega, rfl⟩ ?_
    · intro s hI
      obtain ⟨i, fp, st⟩ := s
      obtain ⟨p, hpw, hi0, hip, h1, h2, h3, k, hk, hV⟩ := hI
      replace hpw : i * qWd fm = p := hpw
      replace hi0 : 0 ≤ i := hi0
      replace hip : i ≤ p := hip
      replace h1 : p ≤ n + 3 := h1
      replace h2 : fp = n := h2
      replace h3 : 0 ≤ st ∧ st ≤ p := h3
      replace hk : n - p ≤ k := hk
      replace hV : qRd n fm b k p st = qRd n fm b n.toNat 0 0 := hV
      have h0 : 0 ≤ p := by omega
      subst h2
      have hstep : (i + 1) * qWd fm = p + qWd fm := by rw [Int.add_mul, hpw, Int.one_mul]
      show (∃ s', f_X2_inspect_L20 b fp fm (qWd fm) i fp st = some (.inl s') ∧ _ ∧ (fp - s'.1).toNat < (fp - i).toNat) ∨ ∃ r, f_X2_inspect_L20 b fp fm (qWd fm) i fp st = some (.inr r) ∧ _
      unfold f_X2_inspect_L20
      by_cases c0 : fp ≤ i
      · right
        rw [qRd_end (by omega)] at hV
        refine ⟨.inl (i, fp, st), ?_, Or.inl ⟨i, by rw [← hV]⟩⟩
        simp (disch := omega) only [zck_t, if_pos]
      · by_cases c1 : fp ≤ p
        · right
          rw [qRd_end c1] at hV
          have hwo := pE_wrongOut (b := b) hn (p := p) (by omega) hfm c1
          refine ⟨.inr (fp, st), ?_, Or.inr (by rw [← hV])⟩
          simp (disch := omega) only [zck_t, if_neg, zlt, hpw, hwo, zb1_e]
        · have hwr := pE_wrong (p := p) hfm hn hb ⟨h0, by omega⟩
          have hwb := qWr_b (fm := fm) (b := b) (p := p) hn (by omega)
          obtain ⟨hk1, hk2, hk3⟩ := pE_kindAt (p := p) hfm hn hb ⟨h0, by omega⟩
          cases k with
          | zero => replace hk : fp - p ≤ 0 := hk; omega
          | succ k =>
            rw [qRd_succ _ _ _ k] at hV
            rw [if_neg c1] at hV
            by_cases c2 : qWr fp fm b p = -1
            · have hin := qWr_in hfm hn.1 h0 c2
              rw [if_pos c2] at hV
              by_cases c3 : qKd fm b p = 4
              · right
                rw [if_pos c3] at hV
                have hbe : f_X2_wrongBehindEnd b fp (p + qWd fm) = some (qAf fp b (p + qWd fm)) := by
                  unfold f_X2_wrongBehindEnd qAf
                  rw [pE_has hn (by omega)]
                  by_cases c4 : fp ≤ p + qWd fm
                  · rw [if_neg (by omega), if_pos c4]
                    simp (disch := omega) only [zck_t, if_true, zb1_e]
                  · rw [if_pos (by omega), if_neg c4, pE_sumC (by omega) (fun v v0 v1 => hb v v0 (by omega))]
                    have hbp := hb (p + qWd fm) (by omega) (by omega)
                    have m0 := Int.emod_nonneg (qCt b (p + qWd fm)) (show (256 : Int) ≠ 0 by decide)
                    have m1 := Int.emod_lt_of_pos (qCt b (p + qWd fm)) (show (0 : Int) < 256 by decide)
                    by_cases c5 : b (p + qWd fm) = qCt b (p + qWd fm) % 256
                    · rw [if_pos c5]
                      by_cases c6 : fp ≤ p + qWd fm + 1
                      · rw [if_pos c6]
                        simp (disch := omega) only [zck_t, if_neg, if_pos, zb1_e]
                      · rw [if_neg c6]
                        simp (disch := omega) only [zck_t, if_neg, if_pos, zb1_e]
                    · rw [if_neg c5]
                      simp (disch := omega) only [zck_t, if_neg, zb1_e]
                refine ⟨.inr (qAf fp b (p + qWd fm), st), ?_, Or.inr (by rw [← hV])⟩
                simp (disch := omega) only [zck_t, if_neg, if_pos, zlt, hpw, hwr, hk1, zb1_e, hbe]
              · left
                rw [if_neg c3] at hV
                by_cases c4 : qKd fm b p = 0
                · rw [if_pos c4] at hV
                  refine ⟨(i + 1, fp, st + 1), ?_, ⟨p + qWd fm, hstep, by show 0 ≤ i + 1; omega, by show i + 1 ≤ p + qWd fm; omega, by show p + qWd fm ≤ fp + 3; omega, rfl, by show 0 ≤ st + 1 ∧ st + 1 ≤ p + qWd fm; omega, k, by show fp - (p + qWd fm) ≤ k; omega, hV⟩, ?_⟩
                  · simp (disch := omega) only [zck_t, if_neg, if_pos, hwr, hk1, zb1_e, zlt, hpw]
                  · show (fp - (i + 1)).toNat < (fp - i).toNat
                    omega
                · rw [if_neg c4] at hV
                  refine ⟨(i + 1, fp, st), ?_, ⟨p + qWd fm, hstep, by show 0 ≤ i + 1; omega, by show i + 1 ≤ p + qWd fm; omega, by show p + qWd fm ≤ fp + 3; omega, rfl, by show 0 ≤ st ∧ st ≤ p + qWd fm; omega, k, by show fp - (p + qWd fm) ≤ k; omega, hV⟩, ?_⟩
                  · simp (disch := omega) only [zck_t, if_neg, if_pos, hwr, hk1, zb1_e, zlt, hpw]
                  · show (fp - (i + 1)).toNat < (fp - i).toNat
                    omega
            · right
              rw [if_neg c2] at hV
              refine ⟨.inr (qWr fp fm b p, st), ?_, Or.inr (by rw [← hV])⟩
              simp (disch := omega) only [zck_t, if_neg, zlt, hpw, hwr, zb1_e]
    · have : (1000000000 : Nat) ≤ zFU := zFU_ge rfl
      show (n - 0).toNat < zFU
      omega
  obtain ⟨r, e, hr⟩ := H
  unfold f_X2_inspect
  rw [hwd]
  simp only [zb1_e]
  rw [e]
  rcases hr with ⟨v, q⟩ | q
  · rw [q]; rfl
  · rw [q]; rfl
