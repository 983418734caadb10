/-! ===== the needle points of a span and of a row ===== -/
/-- the place t of a span from l to r, forwards or back -/
abbrev qSX (l r bk t : Int) : Int := if bk = 0 then l + t else r - t
def qSg (le o l r y bk t : Int) : List (Int × Int) := if qSX l r bk t = l ∨ qSX l r bk t = r ∨ (qSX l r bk t - o) % le = 0 then [(qSX l r bk t, y)] else []
def qSpan (le o l r y bk : Int) : List (Int × Int) := qFM (qSg le o l r y bk) 0 (r - l + 1)
theorem qSX_0 {l r t : Int} : qSX l r 0 t = l + t := if_pos rfl
theorem qSX_1 {l r t : Int} : qSX l r 1 t = r - t := if_neg (by decide)
theorem qSg_len {le o l r y bk t : Int} : (qSg le o l r y bk t).length ≤ 1 := by
  unfold qSg
  split
  · exact Nat.le_refl _
  · exact Nat.zero_le _
theorem qSpan_split {le o l r y bk : Int} (hbk : bk = 0 ∨ bk = 1) (h : l ≤ r) : qSpan le o l r y bk = [(if bk = 0 then l else r, y)] ++ qFM (qSg le o l r y bk) 1 (max 1 (r - l)) ++ (if l = r then [] else [(if bk = 0 then r else l, y)]) := by
  unfold qSpan
  rw [qFM_cons (by omega)]
  have e0 : qSg le o l r y bk 0 = [(if bk = 0 then l else r, y)] := by
    unfold qSg
    rcases hbk with q | q <;> subst q
    · simp only [qSX_0]
      rw [if_pos (Or.inl (by omega)), if_pos trivial, Int.add_zero]
    · simp only [qSX_1]
      rw [if_pos (Or.inr (Or.inl (by omega))), if_neg (by decide), Int.sub_zero]
  rw [e0, show (0 : Int) + 1 = 1 by omega]
  by_cases q : l = r
  · rw [if_pos q, qFM_nil (by omega), qFM_nil (by omega)]
    rfl
  · rw [if_neg q, show max 1 (r - l) = r - l by omega, qFM_succ (by omega), List.append_assoc]
    congr 2
    unfold qSg
    rcases hbk with q2 | q2 <;> subst q2
    · simp only [qSX_0]
      rw [if_pos (Or.inr (Or.inl (by omega))), if_pos trivial, show l + (r - l) = r by omega]
    · simp only [qSX_1]
      rw [if_pos (Or.inl (by omega)), if_neg (by decide), show r - (r - l) = l by omega]
theorem pE_spanLoop {cr xs ys : Int → Int} {n le sh pu k y bk l r x8 x9 : Int} {L : List (Int × Int)} (hbk : bk = 0 ∨ bk = 1) (h8 : x8 = if bk = 0 then l else r) (h9 : x9 = if bk = 0 then 1 else -1) (hl : -10 ≤ l ∧ l ≤ r ∧ r ≤ 50) (hle : 1 ≤ le ∧ le ≤ 12) (hsh : 0 ≤ sh ∧ sh ≤ 11) (hk : 0 ≤ k ∧ k ≤ 100) (hp : qPt xs ys n L) (hn : L.length + (qFM (qSg le (k * sh) l r y bk) 1 (max 1 (r - l))).length ≤ 2078) :
    ∃ i xs' ys' n', zlp (fun z => f_X0_drawSpan_L92 cr le sh pu k y bk l r x8 x9 z.1 z.2.1 z.2.2.1 z.2.2.2) zFU (1, xs, ys, n) = some (i, xs', ys', n') ∧ qPt xs' ys' n' (L ++ qFM (qSg le (k * sh) l r y bk) 1 (max 1 (r - l))) := by
  have H : ∃ q, zlp (fun z => f_X0_drawSpan_L92 cr le sh pu k y bk l r x8 x9 z.1 z.2.1 z.2.2.1 z.2.2.2) zFU (1, xs, ys, n) = some q ∧ qPt q.2.1 q.2.2.1 q.2.2.2 (L ++ qFM (qSg le (k * sh) l r y bk) 1 (max 1 (r - l))) := by
    refine zlp_for (fun s : Int × (Int → Int) × (Int → Int) × Int => s.1) (lo := 1) (hi := max 1 (r - l)) (fun j s => qPt s.2.1 s.2.2.1 s.2.2.2 (L ++ qFM (qSg le (k * sh) l r y bk) 1 j)) _ (by omega) (by omega) ?_ ?_ (1, xs, ys, n) rfl ?_
    · intro s h0 h1 hR
      obtain ⟨j, xs, ys, n⟩ := s
      have h0 : 1 ≤ j := h0
      have h1 : j < max 1 (r - l) := h1
      have hR : qPt xs ys n (L ++ qFM (qSg le (k * sh) l r y bk) 1 j) := hR
      show ∃ s', f_X0_drawSpan_L92 cr le sh pu k y bk l r x8 x9 j xs ys n = some (.inl s') ∧ _ ∧ _
      have hlt := qFM_lt (g := qSg le (k * sh) l r y bk) h0 h1
      have hks := qMul_b (d := k) (j := sh) (D := 100) (J := 11) (by omega) (by omega) hsh.1 hsh.2
      have hX : x8 + x9 * j = qSX l r bk j := by
        rw [h8, h9]
        rcases hbk with q | q <;> subst q
        · rw [qSX_0, if_pos rfl, if_pos rfl]
          omega
        · rw [qSX_1, if_neg (by decide), if_neg (by decide)]
          omega
      have hX2 : l < qSX l r bk j ∧ qSX l r bk j < r := by
        rcases hbk with q | q <;> subst q
        · rw [qSX_0]; omega
        · rw [qSX_1]; omega
      have hg : qSg le (k * sh) l r y bk j = if (qSX l r bk j - k * sh) % le = 0 then [(qSX l r bk j, y)] else [] := by
        unfold qSg
        by_cases q : (qSX l r bk j - k * sh) % le = 0
        · rw [if_pos q, if_pos (Or.inr (Or.inr q))]
        · rw [if_neg q, if_neg]
          rintro (q2 | q2 | q2)
          · omega
          · omega
          · exact q q2
      have hnl := hR.1
      rw [List.length_append] at hnl
      unfold f_X0_drawSpan_L92
      rw [hX]
      generalize hX3 : qSX l r bk j = X at *
      have hfm : f_J9_floorMod_7cf53 (X - k * sh) le = some ((X - k * sh) % le) := pE_fmod (by omega) (by omega)
      have m0 := Int.emod_nonneg (X - k * sh) (show le ≠ 0 by omega)
      have m1 := Int.emod_lt_of_pos (X - k * sh) (show 0 < le by omega)
      generalize (X - k * sh) % le = m at *
      by_cases hm : m = 0
      · rw [if_pos hm] at hg
        rw [hg] at hlt
        have hl1 : [(X, y)].length = 1 := rfl
        refine ⟨(j + 1, zup xs n X, zup ys n y, n + 1), ?_, rfl, ?_⟩
        · simp (disch := omega) only [zck_t, if_neg, if_pos, zlt, hfm, zb1_e]
          rw [pE_put (by omega)]
          rfl
        · show qPt _ _ _ (L ++ qFM (qSg le (k * sh) l r y bk) 1 (j + 1))
          rw [qFM_succ h0, hg, ← List.append_assoc]
          exact qPt_put hR X y
      · rw [if_neg hm] at hg
        refine ⟨(j + 1, xs, ys, n), ?_, rfl, ?_⟩
        · simp (disch := omega) only [zck_t, if_neg, zlt, hfm, zb1_e]
        · show qPt _ _ _ (L ++ qFM (qSg le (k * sh) l r y bk) 1 (j + 1))
          rw [qFM_succ h0, hg, List.append_nil]
          exact hR
    · intro s h0 hR
      obtain ⟨j, xs, ys, n⟩ := s
      have h0 : j = max 1 (r - l) := h0
      show ∃ r, f_X0_drawSpan_L92 cr le sh pu k y bk l _ x8 x9 j xs ys n = some (.inr r) ∧ _
      refine ⟨(j, xs, ys, n), ?_, hR⟩
      unfold f_X0_drawSpan_L92
      simp (disch := omega) only [zck_t, if_pos]
    · show qPt xs ys n (L ++ qFM _ 1 1)
      rw [qFM_nil (by omega), List.append_nil]
      exact hp
  obtain ⟨⟨i, a, b, m⟩, e, hq⟩ := H
  exact ⟨i, a, b, m, e, hq⟩
theorem pE_drawSpan {cr xs ys : Int → Int} {n le sh pu s k y bk : Int} {L : List (Int × Int)} (hbk : bk = 0 ∨ bk = 1) (hs : 0 ≤ s ∧ 2 * s + 1 < 8) (hl : -10 ≤ cr (2 * s) - pu ∧ cr (2 * s) - pu ≤ cr (2 * s + 1) + pu ∧ cr (2 * s + 1) + pu ≤ 50) (hle : 1 ≤ le ∧ le ≤ 12) (hsh : 0 ≤ sh ∧ sh ≤ 11) (hk : 0 ≤ k ∧ k ≤ 100) (hp : qPt xs ys n L) (hn : L.length + (qSpan le (k * sh) (cr (2 * s) - pu) (cr (2 * s + 1) + pu) y bk).length ≤ 2078) :
    ∃ xs' ys' n', f_X0_drawSpan cr le sh pu xs ys n s k y bk = some (xs', ys', n') ∧ qPt xs' ys' n' (L ++ qSpan le (k * sh) (cr (2 * s) - pu) (cr (2 * s + 1) + pu) y bk) := by
  unfold f_X0_drawSpan f_X0_drawSpan_65
  simp (disch := omega) only [zlt, zck_t, if_neg, if_pos]
  generalize cr (2 * s) - pu = l at *
  generalize cr (2 * s + 1) + pu = r at *
  rw [qSpan_split hbk hl.2.1] at hn ⊢
  have hnl := hp.1
  rw [List.length_append, List.length_append, List.length_singleton] at hn
  have hp1 := qPt_put hp (if bk = 0 then l else r) y
  obtain ⟨i, xs2, ys2, n2, e, hq⟩ := pE_spanLoop (cr := cr) (pu := pu) (y := y) hbk rfl rfl hl hle hsh hk hp1 (by rw [List.length_append, List.length_singleton]; omega)
  have hq1 := hq.1
  rw [List.length_append, List.length_append, List.length_singleton] at hq1
  unfold f_X0_drawSpan_77 f_X0_drawSpan_177
  rcases hbk with q | q <;> subst q
  · simp only [if_true, if_false] at e hq hn ⊢
    rw [pE_put (by omega)]
    simp only [zb3_e]
    rw [e]
    simp only [zb4_e]
    by_cases q : l = r
    · refine ⟨xs2, ys2, n2, ?_, ?_⟩
      · simp (disch := omega) only [zck_t, if_pos]
      · rw [if_pos q, List.append_nil, ← List.append_assoc]
        exact hq
    · rw [if_neg q, List.length_singleton] at hn
      refine ⟨zup xs2 n2 r, zup ys2 n2 y, n2 + 1, ?_, ?_⟩
      · simp (disch := omega) only [zck_t, if_neg]
        rw [pE_put (by omega)]
        rfl
      · rw [if_neg q, ← List.append_assoc, ← List.append_assoc]
        exact qPt_put hq r y
  · simp only [show ¬ ((1 : Int) = 0) by decide, if_true, if_false] at e hq hn ⊢
    rw [pE_put (by omega)]
    simp only [zb3_e]
    rw [e]
    simp only [zb4_e]
    by_cases q : l = r
    · refine ⟨xs2, ys2, n2, ?_, ?_⟩
      · simp (disch := omega) only [zck_t, if_pos]
      · rw [if_pos q, List.append_nil, ← List.append_assoc]
        exact hq
    · rw [if_neg q, List.length_singleton] at hn
      refine ⟨zup xs2 n2 l, zup ys2 n2 y, n2 + 1, ?_, ?_⟩
      · simp (disch := omega) only [zck_t, if_neg]
        rw [pE_put (by omega)]
        rfl
      · rw [if_neg q, ← List.append_assoc, ← List.append_assoc]
        exact qPt_put hq l y
theorem qDvd {v le : Int} : v / le * le = v ↔ v % le = 0 := by
  have := Int.mul_ediv_add_emod v le
  rw [Int.mul_comm] at this
  omega
