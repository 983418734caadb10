/-! ===== the needle points of all rows ===== -/
/-- a loop that puts points: at each count those of g -/
theorem zlp_pts {body : Int × (Int → Int) × (Int → Int) × Int → Option ((Int × (Int → Int) × (Int → Int) × Int) ⊕ (Int × (Int → Int) × (Int → Int) × Int))} {g : Int → List (Int × Int)} {lo hi : Int} {M : Nat} (hlh : lo ≤ hi) (hf : hi - lo < 999999999)
    (hs : ∀ j xs ys n L, lo ≤ j → j < hi → qPt xs ys n L → L.length + (g j).length ≤ M → ∃ xs' ys' n', body (j, xs, ys, n) = some (.inl (j + 1, xs', ys', n')) ∧ qPt xs' ys' n' (L ++ g j))
    (he : ∀ xs ys n, body (hi, xs, ys, n) = some (.inr (hi, xs, ys, n)))
    {xs ys : Int → Int} {n : Int} {L : List (Int × Int)} (hp : qPt xs ys n L) (hn : L.length + (qFM g lo hi).length ≤ M) :
    ∃ xs' ys' n', zlp body zFU (lo, xs, ys, n) = some (hi, xs', ys', n') ∧ qPt xs' ys' n' (L ++ qFM g lo hi) := by
  have H : ∃ q, zlp body zFU (lo, xs, ys, n) = some q ∧ (q.1 = hi ∧ qPt q.2.1 q.2.2.1 q.2.2.2 (L ++ qFM g lo hi)) := by
    refine zlp_for (fun s => s.1) (fun j s => qPt s.2.1 s.2.2.1 s.2.2.2 (L ++ qFM g lo j)) _ hlh hf ?_ ?_ (lo, xs, ys, n) rfl ?_
    · intro s h0 h1 hR
      obtain ⟨j, xs, ys, n⟩ := s
      have h0 : lo ≤ j := h0
      have h1 : j < hi := h1
      have hR : qPt xs ys n (L ++ qFM g lo j) := hR
      have hlt := qFM_lt (g := g) h0 h1
      obtain ⟨xs', ys', n', e, hq⟩ := hs j xs ys n _ h0 h1 hR (by rw [List.length_append]; omega)
      refine ⟨_, e, rfl, ?_⟩
      show qPt xs' ys' n' (L ++ qFM g lo (j + 1))
      rw [qFM_succ h0, ← List.append_assoc]
      exact hq
    · intro s h0 hR
      obtain ⟨j, xs, ys, n⟩ := s
      have h0 : j = hi := h0
      subst h0
      exact ⟨_, he xs ys n, rfl, hR⟩
    · show qPt xs ys n (L ++ qFM g lo lo)
      rw [qFM_nil (Int.le_refl _), List.append_nil]
      exact hp
  obtain ⟨⟨i, a, b, m⟩, e, h1, hq⟩ := H
  have h1 : i = hi := h1
  subst h1
  exact ⟨a, b, m, e, hq⟩
/-- a row's crossings: by size, in their room, an even number of them -/
def qOk (l : List Int) : Prop := l.Pairwise (fun a b => a ≤ b) ∧ (∀ v ∈ l, 0 ≤ v ∧ v ≤ 31) ∧ l.length ≤ 8 ∧ l.length % 2 = 0
theorem qCr_ok {cx cy : Int → Int} {c y : Int} (hc : 0 ≤ c ∧ c ≤ 8) (hb : qIn cx cy c) : qOk (qCr cx cy c y) := by
  have h := qCrP_ok (y := y) hb c.toNat (by omega)
  rw [show ((c.toNat : Nat) : Int) = c by omega] at h
  exact ⟨h.1, h.2.1, by have := h.2.2; show (qCrP cx cy c y c).length ≤ 8; omega, qCr_even hc.1⟩
def qGet (l : List Int) (i : Int) : Int := l.getD i.toNat 0
theorem qGet_row {a : Int → Int} {n i : Int} {l : List Int} (h : qRow a n l) (h0 : 0 ≤ i) (h1 : i < n) : a i = qGet l i := by
  unfold qGet
  rw [List.getD_eq_getElem?_getD, qRow_at h h0 h1]
  rfl
theorem qGet_le {l : List Int} (h : qOk l) {i j : Int} (h0 : 0 ≤ i) (h1 : i ≤ j) (h2 : j < (l.length : Int)) : 0 ≤ qGet l i ∧ qGet l i ≤ qGet l j ∧ qGet l j ≤ 31 := by
  have e : ∀ k : Int, 0 ≤ k → k < (l.length : Int) → ∃ hk : k.toNat < l.length, qGet l k = l[k.toNat] := by
    intro k k0 k1
    refine ⟨by omega, ?_⟩
    unfold qGet
    rw [List.getD_eq_getElem?_getD, List.getElem?_eq_getElem (by omega)]
    rfl
  obtain ⟨hi, ei⟩ := e i h0 (by omega)
  obtain ⟨hj, ej⟩ := e j (by omega) h2
  rw [ei, ej]
  have bi := h.2.1 _ (List.getElem_mem hi)
  have bj := h.2.1 _ (List.getElem_mem hj)
  refine ⟨bi.1, ?_, bj.2⟩
  by_cases q : i = j
  · subst q; exact Int.le_refl _
  · exact List.pairwise_iff_getElem.mp h.1 i.toNat j.toNat hi hj (by omega)
/-- the spans of a row, in their order -/
def qRS (l : List Int) (k i : Int) : Int := if k % 2 = 0 then i else (l.length : Int) / 2 - 1 - i
def qRowS (l : List Int) (le sh pu y k i : Int) : List (Int × Int) := qSpan le (k * sh) (qGet l (2 * qRS l k i) - pu) (qGet l (2 * qRS l k i + 1) + pu) y (k % 2)
def qRowP (l : List Int) (le sh pu y k : Int) : List (Int × Int) := qFM (qRowS l le sh pu y k) 0 ((l.length : Int) / 2)
theorem qRS_in {l : List Int} {k i : Int} (h0 : 0 ≤ i) (h1 : i < (l.length : Int) / 2) : 0 ≤ qRS l k i ∧ 2 * qRS l k i + 1 < (l.length : Int) := by
  unfold qRS
  split <;> omega
theorem pE_rowLoop {cX cY cr xs ys : Int → Int} {c cc de le sh pu x1 x2 k y n : Int} {l : List Int} {L : List (Int × Int)} (hr : qRow cr cc l) (hok : qOk l) (hle : 1 ≤ le ∧ le ≤ 12) (hsh : 0 ≤ sh ∧ sh ≤ 11) (hpu : 0 ≤ pu ∧ pu ≤ 3) (hk : 0 ≤ k ∧ k ≤ 100) (hp : qPt xs ys n L) (hn : L.length + (qRowP l le sh pu y k).length ≤ 2078) :
    ∃ xs' ys' n', zlp (fun z => f_X0_drawRows_L67 cX cY cr c cc de le sh pu x1 x2 k y ((l.length : Int) / 2) (k % 2) z.1 z.2.1 z.2.2.1 z.2.2.2) zFU (0, xs, ys, n) = some ((l.length : Int) / 2, xs', ys', n') ∧ qPt xs' ys' n' (L ++ qRowP l le sh pu y k) := by
  have h8 := hok.2.2.1
  refine zlp_pts (M := 2078) (by omega) (by omega) ?_ ?_ hp hn
  · intro j xs ys n L h0 h1 hp hn
    have hs := qRS_in (k := k) h0 h1
    have hcc := hr.1
    have e1 := qGet_row hr (i := 2 * qRS l k j) (by omega) (by omega)
    have e2 := qGet_row hr (i := 2 * qRS l k j + 1) (by omega) (by omega)
    have hb := qGet_le hok (i := 2 * qRS l k j) (j := 2 * qRS l k j + 1) (by omega) (by omega) hs.2
    have hn2 : L.length + (qSpan le (k * sh) (cr (2 * qRS l k j) - pu) (cr (2 * qRS l k j + 1) + pu) y (k % 2)).length ≤ 2078 := by
      rw [e1, e2]
      exact hn
    obtain ⟨xs', ys', n', e, hq⟩ := pE_drawSpan (cr := cr) (pu := pu) (s := qRS l k j) (bk := k % 2) (by omega) ⟨hs.1, by omega⟩ (by rw [e1, e2]; omega) hle hsh hk hp hn2
    refine ⟨xs', ys', n', ?_, ?_⟩
    · show f_X0_drawRows_L67 cX cY cr c cc de le sh pu x1 x2 k y ((l.length : Int) / 2) (k % 2) j xs ys n = _
      unfold f_X0_drawRows_L67 f_X0_drawRows_L67_92
      have hqs : qRS l k j = if k % 2 = 0 then j else (l.length : Int) / 2 - 1 - j := rfl
      by_cases q : k % 2 = 0
      · rw [if_pos q] at hqs
        rw [hqs] at e
        simp (disch := omega) only [zck_t, if_pos, if_neg, e, zb3_e]
      · rw [if_neg q] at hqs
        rw [hqs] at e
        simp (disch := omega) only [zck_t, if_neg, e, zb3_e]
    · rw [e1, e2] at hq
      exact hq
  · intro xs ys n
    show f_X0_drawRows_L67 cX cY cr c cc de le sh pu x1 x2 k y ((l.length : Int) / 2) (k % 2) ((l.length : Int) / 2) xs ys n = _
    unfold f_X0_drawRows_L67
    simp (disch := omega) only [zck_t, if_pos]
/-- the least and the greatest row of the corners -/
def qLo (cy : Int → Int) (c : Int) : Int := (qR 0 c).foldl (fun m i => min m (cy i)) 32
def qHi (cy : Int → Int) (c : Int) : Int := (qR 0 c).foldl (fun m i => max m (cy i)) 0
theorem qLo_s {cy : Int → Int} {c : Int} (h : 0 ≤ c) : qLo cy (c + 1) = min (qLo cy c) (cy c) := by
  unfold qLo
  rw [qR_succ h, List.foldl_append]
  rfl
theorem qHi_s {cy : Int → Int} {c : Int} (h : 0 ≤ c) : qHi cy (c + 1) = max (qHi cy c) (cy c) := by
  unfold qHi
  rw [qR_succ h, List.foldl_append]
  rfl
theorem qLoHi {cx cy : Int → Int} {c : Int} (hb : qIn cx cy c) (n : Nat) : ((n : Int) ≤ c) → (0 ≤ qLo cy n ∧ qLo cy n ≤ 32) ∧ (0 ≤ qHi cy n ∧ qHi cy n ≤ 31) ∧ (∀ i : Int, 0 ≤ i → i < (n : Int) → qLo cy n ≤ cy i ∧ cy i ≤ qHi cy n) := by
  induction n with
  | zero =>
    intro _
    have e1 : qLo cy ((0 : Nat) : Int) = 32 := by
      unfold qLo
      rw [qR_nil (by omega)]
      rfl
    have e2 : qHi cy ((0 : Nat) : Int) = 0 := by
      unfold qHi
      rw [qR_nil (by omega)]
      rfl
    rw [e1, e2]
    exact ⟨by omega, by omega, fun i h0 h1 => by omega⟩
  | succ n ih =>
    intro hn
    obtain ⟨h1, h2, h3⟩ := ih (by omega)
    have g := hb n (by omega) (by omega)
    rw [show ((n + 1 : Nat) : Int) = (n : Int) + 1 by omega, qLo_s (by omega), qHi_s (by omega)]
    refine ⟨by omega, by omega, fun i i0 i1 => ?_⟩
    by_cases q : i = n
    · subst q; omega
    · have := h3 i i0 (by omega)
      omega
theorem qLoHi' {cx cy : Int → Int} {c : Int} (hc : 0 ≤ c) (hb : qIn cx cy c) : (0 ≤ qLo cy c ∧ qLo cy c ≤ 32) ∧ (0 ≤ qHi cy c ∧ qHi cy c ≤ 31) ∧ (∀ i, 0 ≤ i → i < c → qLo cy c ≤ cy i ∧ cy i ≤ qHi cy c) := by
  have := qLoHi hb c.toNat (by omega)
  rw [show ((c.toNat : Nat) : Int) = c by omega] at this
  exact this
theorem pE_least {cx cy : Int → Int} {c : Int} (hc : 0 ≤ c ∧ c ≤ 8) (hb : qIn cx cy c) : f_X0_leastY cy c = some (qLo cy c) := by
  have H : ∃ q, zlp (fun z => f_X0_leastY_L5 cy c z.1 z.2) zFU (32, 0) = some q ∧ q.1 = qLo cy c := by
    refine zlp_for (fun s : Int × Int => s.2) (lo := 0) (hi := c) (fun j s => s.1 = qLo cy j) _ hc.1 (by omega) ?_ ?_ (32, 0) rfl ?_
    · intro s h0 h1 hR
      obtain ⟨m, j⟩ := s
      have h0 : 0 ≤ j := h0
      have h1 : j < c := h1
      have hR : m = qLo cy j := hR
      have g := hb j h0 h1
      have g2 := qLoHi hb j.toNat (by omega)
      rw [show ((j.toNat : Nat) : Int) = j by omega] at g2
      refine ⟨(min m (cy j), j + 1), ?_, rfl, ?_⟩
      · show f_X0_leastY_L5 cy c m j = _
        unfold f_X0_leastY_L5
        simp (disch := omega) only [zck_t, if_neg, zlt]
      · show min m (cy j) = qLo cy (j + 1)
        rw [qLo_s h0, hR]
    · intro s h0 hR
      obtain ⟨m, j⟩ := s
      have h0 : j = c := h0
      have hR : m = qLo cy c := hR
      refine ⟨(m, j), ?_, hR⟩
      show f_X0_leastY_L5 cy c m j = _
      unfold f_X0_leastY_L5
      simp (disch := omega) only [zck_t, if_pos]
    · show (32 : Int) = qLo cy 0
      unfold qLo
      rw [qR_nil (by omega)]
      rfl
  obtain ⟨⟨m, j⟩, e, h⟩ := H
  have h : m = qLo cy c := h
  unfold f_X0_leastY
  rw [e, ← h]
  rfl
theorem pE_greatest {cx cy : Int → Int} {c : Int} (hc : 0 ≤ c ∧ c ≤ 8) (hb : qIn cx cy c) : f_X0_greatestY cy c = some (qHi cy c) := by
  have H : ∃ q, zlp (fun z => f_X0_greatestY_L4 cy c z.1 z.2) zFU (0, 0) = some q ∧ q.1 = qHi cy c := by
    refine zlp_for (fun s : Int × Int => s.2) (lo := 0) (hi := c) (fun j s => s.1 = qHi cy j) _ hc.1 (by omega) ?_ ?_ (0, 0) rfl ?_
    · intro s h0 h1 hR
      obtain ⟨m, j⟩ := s
      have h0 : 0 ≤ j := h0
      have h1 : j < c := h1
      have hR : m = qHi cy j := hR
      have g := hb j h0 h1
      have g2 := qLoHi hb j.toNat (by omega)
      rw [show ((j.toNat : Nat) : Int) = j by omega] at g2
      refine ⟨(max m (cy j), j + 1), ?_, rfl, ?_⟩
      · show f_X0_greatestY_L4 cy c m j = _
        unfold f_X0_greatestY_L4
        simp (disch := omega) only [zck_t, if_neg, zlt]
      · show max m (cy j) = qHi cy (j + 1)
        rw [qHi_s h0, hR]
    · intro s h0 hR
      obtain ⟨m, j⟩ := s
      have h0 : j = c := h0
      have hR : m = qHi cy c := hR
      refine ⟨(m, j), ?_, hR⟩
      show f_X0_greatestY_L4 cy c m j = _
      unfold f_X0_greatestY_L4
      simp (disch := omega) only [zck_t, if_pos]
    · show (0 : Int) = qHi cy 0
      unfold qHi
      rw [qR_nil (by omega)]
      rfl
  obtain ⟨⟨m, j⟩, e, h⟩ := H
  have h : m = qHi cy c := h
  unfold f_X0_greatestY
  rw [e, ← h]
  rfl
/-- how many rows are sewn; row k of them -/
def qNR (cy : Int → Int) (c de : Int) : Int := (qHi cy c - qLo cy c + de - 1) / de
def qRowK (cx cy : Int → Int) (c de le sh pu k : Int) : List (Int × Int) := qRowP (qCr cx cy c (qLo cy c + k * de)) le sh pu (qLo cy c + k * de) k
def qRows (cx cy : Int → Int) (c de le sh pu : Int) : List (Int × Int) := qFM (qRowK cx cy c de le sh pu) 0 (qNR cy c de)
theorem qNR_lt {cy : Int → Int} {c de k : Int} (hd : 1 ≤ de) : k < qNR cy c de ↔ qLo cy c + k * de < qHi cy c := by
  unfold qNR
  rw [show (k < (qHi cy c - qLo cy c + de - 1) / de) ↔ (k + 1 ≤ (qHi cy c - qLo cy c + de - 1) / de) from Iff.rfl, Int.le_ediv_iff_mul_le (by omega), Int.add_mul]
  omega
theorem qNR_b {cx cy : Int → Int} {c de : Int} (hc : 3 ≤ c) (hb : qIn cx cy c) (hd : 1 ≤ de) : 0 ≤ qNR cy c de ∧ qNR cy c de ≤ 31 := by
  obtain ⟨h1, h2, h3⟩ := qLoHi' (by omega) hb
  have g := h3 0 (by omega) (by omega)
  constructor
  · unfold qNR
    exact Int.ediv_nonneg (by omega) (by omega)
  · rcases Int.lt_or_le 31 (qNR cy c de) with q | q
    · have := (qNR_lt hd).mp q
      have := Int.mul_le_mul_of_nonneg_left hd (show (0 : Int) ≤ 31 by omega)
      omega
    · exact q
theorem pE_drawRows {cx cy cr xs ys : Int → Int} {c cc de le sh pu n : Int} {L : List (Int × Int)} (hc : 3 ≤ c ∧ c ≤ 8) (hb : qIn cx cy c) (hde : 1 ≤ de ∧ de ≤ 8) (hle : 1 ≤ le ∧ le ≤ 12) (hsh : 0 ≤ sh ∧ sh ≤ 11) (hpu : 0 ≤ pu ∧ pu ≤ 3) (hp : qPt xs ys n L) (hn : L.length + (qRows cx cy c de le sh pu).length ≤ 2078) :
    ∃ cr' cc' xs' ys' n', f_X0_drawRows cx cy cr c cc de le sh pu xs ys n = some (cr', cc', xs', ys', n') ∧ qPt xs' ys' n' (L ++ qRows cx cy c de le sh pu) := by
  obtain ⟨h1, h2, h3⟩ := qLoHi' (by omega) hb
  have g := h3 0 (by omega) (by omega)
  have hnr := qNR_b hc.1 hb hde.1
  have H : ∃ q, zlp (fun z => f_X0_drawRows_L21 cx cy c de le sh pu (qLo cy c) (qNR cy c de) z.1 z.2.1 z.2.2.1 z.2.2.2.1 z.2.2.2.2.1 z.2.2.2.2.2) zFU (0, cr, cc, xs, ys, n) = some q ∧ qPt q.2.2.2.1 q.2.2.2.2.1 q.2.2.2.2.2 (L ++ qRows cx cy c de le sh pu) := by
    refine zlp_for (fun s : Int × (Int → Int) × Int × (Int → Int) × (Int → Int) × Int => s.1) (lo := 0) (hi := qNR cy c de) (fun j s => qPt s.2.2.2.1 s.2.2.2.2.1 s.2.2.2.2.2 (L ++ qFM (qRowK cx cy c de le sh pu) 0 j)) _ hnr.1 (by omega) ?_ ?_ (0, cr, cc, xs, ys, n) rfl ?_
    · intro s h0 h1' hR
      obtain ⟨k, cr, cc, xs, ys, n⟩ := s
      have h0 : 0 ≤ k := h0
      have h1' : k < qNR cy c de := h1'
      have hR : qPt xs ys n (L ++ qFM (qRowK cx cy c de le sh pu) 0 k) := hR
      show ∃ s', f_X0_drawRows_L21 cx cy c de le sh pu (qLo cy c) (qNR cy c de) k cr cc xs ys n = some (.inl s') ∧ _ ∧ _
      have hy := (qNR_lt (k := k) hde.1).mp h1'
      have hyk := qMul_b (d := k) (j := de) (D := 31) (J := 8) (by omega) (by omega) (by omega) hde.2
      have hlt := qFM_lt (g := qRowK cx cy c de le sh pu) h0 h1'
      have hn : L.length + (qFM (qRowK cx cy c de le sh pu) 0 (qNR cy c de)).length ≤ 2078 := hn
      obtain ⟨cr2, cc2, e1, hr⟩ := pE_cross (cr := cr) (cc := cc) (y := qLo cy c + k * de) (by omega) hb (by omega)
      have hok := qCr_ok (y := qLo cy c + k * de) (by omega) hb
      have h8 := hok.2.2.1
      have hcc2 := hr.1
      obtain ⟨xs', ys', n', e2, hq⟩ := pE_rowLoop (cX := cx) (cY := cy) (c := c) (de := de) (x1 := qLo cy c) (x2 := qNR cy c de) (k := k) (y := qLo cy c + k * de) hr hok hle hsh hpu (by omega) hR (by
        rw [List.length_append]
        have : (qRowK cx cy c de le sh pu k).length = (qRowP (qCr cx cy c (qLo cy c + k * de)) le sh pu (qLo cy c + k * de) k).length := rfl
        omega)
      refine ⟨(k + 1, cr2, cc2, xs', ys', n'), ?_, rfl, ?_⟩
      · have htd : Int.tdiv cc2 2 = ((qCr cx cy c (qLo cy c + k * de)).length : Int) / 2 := by
          rw [Int.tdiv_eq_ediv_of_nonneg (by omega), hcc2]
        have htm : Int.tmod k 2 = k % 2 := Int.tmod_eq_emod_of_nonneg h0
        unfold f_X0_drawRows_L21 f_X0_drawRows_L21_62
        simp (disch := omega) only [zck_t, if_neg, zlt, e1, zb2_e, htd, htm]
        by_cases q : k % 2 = 1
        · rw [if_pos q]
          rw [q] at e2
          rw [e2]
          rfl
        · rw [if_neg q]
          rw [show k % 2 = 0 by omega] at e2
          rw [e2]
          rfl
      · show qPt xs' ys' n' (L ++ qFM (qRowK cx cy c de le sh pu) 0 (k + 1))
        rw [qFM_succ h0, ← List.append_assoc]
        exact hq
    · intro s h0 hR
      obtain ⟨k, cr, cc, xs, ys, n⟩ := s
      have h0 : k = qNR cy c de := h0
      refine ⟨(k, cr, cc, xs, ys, n), ?_, hR⟩
      show f_X0_drawRows_L21 cx cy c de le sh pu (qLo cy c) (qNR cy c de) k cr cc xs ys n = _
      unfold f_X0_drawRows_L21
      simp (disch := omega) only [zck_t, if_pos]
    · show qPt xs ys n (L ++ qFM _ 0 0)
      rw [qFM_nil (Int.le_refl _), List.append_nil]
      exact hp
  obtain ⟨⟨k, cr', cc', xs', ys', n'⟩, e, hq⟩ := H
  refine ⟨cr', cc', xs', ys', n', ?_, hq⟩
  unfold f_X0_drawRows
  rw [pE_least (by omega) hb, pE_greatest (by omega) hb]
  simp only [zb1_e]
  rw [pE_up (by omega) (by omega)]
  simp only [zb1_e]
  rw [show (qHi cy c - qLo cy c + de - 1) / de = qNR cy c de from rfl, e]
  rfl
