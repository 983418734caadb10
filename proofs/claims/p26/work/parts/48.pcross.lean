/-! ===== crossings of a row ===== -/
/-- a number put behind all that are not above it -/
def qIns (x : Int) : List Int → List Int
  | [] => [x]
  | y :: l => if y ≤ x then y :: qIns x l else x :: y :: l
theorem qIns_len (x : Int) (l : List Int) : (qIns x l).length = l.length + 1 := by
  induction l with
  | nil => rfl
  | cons y l ih =>
    unfold qIns
    split
    · rw [List.length_cons, ih, List.length_cons]
    · rfl
theorem qIns_mem {x v : Int} {l : List Int} (h : v ∈ qIns x l) : v = x ∨ v ∈ l := by
  induction l with
  | nil =>
    unfold qIns at h
    rcases List.mem_cons.mp h with q | q
    · exact Or.inl q
    · exact Or.inr q
  | cons y l ih =>
    unfold qIns at h
    split at h
    · rcases List.mem_cons.mp h with q | q
      · exact Or.inr (List.mem_cons.mpr (Or.inl q))
      · rcases ih q with q2 | q2
        · exact Or.inl q2
        · exact Or.inr (List.mem_cons.mpr (Or.inr q2))
    · exact List.mem_cons.mp h
theorem qIns_sorted {x : Int} {l : List Int} (h : l.Pairwise (fun a b => a ≤ b)) : (qIns x l).Pairwise (fun a b => a ≤ b) := by
  induction l with
  | nil =>
    unfold qIns
    exact List.pairwise_cons.mpr ⟨fun a ha => absurd ha (by simp), List.Pairwise.nil⟩
  | cons y l ih =>
    have h2 := List.pairwise_cons.mp h
    unfold qIns
    split
    · rename_i hy
      refine List.pairwise_cons.mpr ⟨fun a ha => ?_, ih h2.2⟩
      rcases qIns_mem ha with q | q
      · rw [q]; exact hy
      · exact h2.1 a q
    · rename_i hy
      refine List.pairwise_cons.mpr ⟨fun a ha => ?_, h⟩
      rcases List.mem_cons.mp ha with q | q
      · omega
      · have := h2.1 a q
        omega
theorem qIns_split {x : Int} {l1 l2 : List Int} (h1 : ∀ v ∈ l1, v ≤ x) (h2 : ∀ v ∈ l2, x < v) : qIns x (l1 ++ l2) = l1 ++ x :: l2 := by
  induction l1 with
  | nil =>
    cases l2 with
    | nil => rfl
    | cons y l2 =>
      have := h2 y (List.mem_cons.mpr (Or.inl rfl))
      show qIns x (y :: l2) = x :: y :: l2
      unfold qIns
      rw [if_neg (by omega)]
  | cons y l1 ih =>
    have := h1 y (List.mem_cons.mpr (Or.inl rfl))
    show qIns x (y :: (l1 ++ l2)) = y :: (l1 ++ x :: l2)
    unfold qIns
    rw [if_pos this, ih (fun v hv => h1 v (List.mem_cons.mpr (Or.inr hv)))]
/-- the row behind the put -/
theorem qIns_row {a b : Int → Int} {n x p : Int} {l : List Int} (hr : qRow a n l) (hs : l.Pairwise (fun a b => a ≤ b)) (hp : 0 ≤ p ∧ p ≤ n)
    (hb1 : ∀ i, 0 ≤ i → i < p → b i = a i) (hb2 : ∀ i, p < i → i ≤ n → b i = a (i - 1)) (hg : ∀ i, p ≤ i → i < n → x < a i) (hl : p = 0 ∨ a (p - 1) ≤ x) : qRow (zup b p x) (n + 1) (qIns x l) := by
  have hn := hr.1
  have e : qIns x l = l.take p.toNat ++ x :: l.drop p.toNat := by
    have := qIns_split (x := x) (l1 := l.take p.toNat) (l2 := l.drop p.toNat) ?_ ?_
    · rw [List.take_append_drop] at this
      exact this
    · intro v hv
      obtain ⟨i, hi⟩ := List.mem_iff_getElem?.mp hv
      rw [List.getElem?_take] at hi
      split at hi
      · rename_i hip
        rcases hl with q | q
        · omega
        · have e1 := hr.2 i (by omega)
          have e2 := qRow_at hr (i := p - 1) (by omega) (by omega)
          rw [e1] at hi
          have hv2 := Option.some.inj hi
          by_cases hlast : i = (p - 1).toNat
          · have : (i : Int) = p - 1 := by omega
            rw [this] at hv2
            omega
          · have := List.pairwise_iff_getElem.mp hs i (p - 1).toNat (by omega) (by omega) (by omega)
            have g1 := (List.getElem?_eq_some_iff.mp e1).2
            have g2 := (List.getElem?_eq_some_iff.mp e2).2
            rw [g1, g2] at this
            omega
      · cases hi
    · intro v hv
      obtain ⟨i, hi⟩ := List.mem_iff_getElem?.mp hv
      rw [List.getElem?_drop] at hi
      have hlt : p.toNat + i < l.length := by
        obtain ⟨h, _⟩ := List.getElem?_eq_some_iff.mp hi
        exact h
      rw [hr.2 _ hlt] at hi
      have hv2 := Option.some.inj hi
      have := hg ((p.toNat + i : Nat) : Int) (by omega) (by omega)
      omega
  refine ⟨by rw [qIns_len]; omega, fun i hi => ?_⟩
  rw [qIns_len] at hi
  rw [e]
  have hlt : (l.take p.toNat).length = p.toNat := by rw [List.length_take]; omega
  by_cases q1 : (i : Int) < p
  · rw [List.getElem?_append_left (by omega), List.getElem?_take, if_pos (by omega), hr.2 i (by omega), zup_n (by omega), hb1 _ (by omega) q1]
  · rw [List.getElem?_append_right (by omega), hlt]
    by_cases q2 : (i : Int) = p
    · rw [show i - p.toNat = 0 by omega, List.getElem?_cons_zero, q2, zup_s]
    · rw [show i - p.toNat = (i - p.toNat - 1) + 1 by omega, List.getElem?_cons_succ, List.getElem?_drop, show p.toNat + (i - p.toNat - 1) = i - 1 by omega, hr.2 (i - 1) (by omega), zup_n (by omega), hb2 _ (by omega) (by omega)]
      congr 2
      omega
theorem pE_insert {a : Int → Int} {n x : Int} {l : List Int} (hr : qRow a n l) (hs : l.Pairwise (fun a b => a ≤ b)) (hn : n < 8) (hx : zR x) (hz : ∀ i, 0 ≤ i → i < n → zR (a i)) :
    ∃ p b, zlp (fun z => f_X0_putCrossing_L15 n x z.1 z.2) zFU (n, a) = some (p, b) ∧ (0 ≤ p ∧ p < 8) ∧ qRow (zup b p x) (n + 1) (qIns x l) := by
  have hn0 := qRow_nn hr
  have H : ∃ r : Int × (Int → Int), zlp (fun z => f_X0_putCrossing_L15 n x z.1 z.2) zFU (n, a) = some r ∧ ((0 ≤ r.1 ∧ r.1 ≤ n) ∧ (∀ i, 0 ≤ i → i < r.1 → r.2 i = a i) ∧ (∀ i, r.1 < i → i ≤ n → r.2 i = a (i - 1)) ∧ (∀ i, r.1 ≤ i → i < n → x < a i) ∧ (r.1 = 0 ∨ a (r.1 - 1) ≤ x)) := by
    refine zlp_rule (fun s : Int × (Int → Int) => (0 ≤ s.1 ∧ s.1 ≤ n) ∧ (∀ i, 0 ≤ i → i < s.1 → s.2 i = a i) ∧ (∀ i, s.1 < i → i ≤ n → s.2 i = a (i - 1)) ∧ (∀ i, s.1 ≤ i → i < n → x < a i)) _ (fun s => s.1.toNat) ?_ zFU (n, a) ?_ ?_
    · intro s hI
      obtain ⟨p, b⟩ := s
      obtain ⟨hp, h1, h2, h3⟩ := hI
      have hp : 0 ≤ p ∧ p ≤ n := hp
      have h1 : ∀ i, 0 ≤ i → i < p → b i = a i := h1
      have h2 : ∀ i, p < i → i ≤ n → b i = a (i - 1) := h2
      have h3 : ∀ i, p ≤ i → i < n → x < a i := h3
      show (∃ s', f_X0_putCrossing_L15 n x p b = some (.inl s') ∧ _ ∧ _) ∨ ∃ t, f_X0_putCrossing_L15 n x p b = some (.inr t) ∧ _
      unfold f_X0_putCrossing_L15
      by_cases c1 : p ≤ 0
      · refine Or.inr ⟨(p, b), ?_, hp, h1, h2, h3, Or.inl ?_⟩
        · simp (disch := omega) only [zck_t, if_pos]
        · show p = 0
          omega
      · have e := h1 (p - 1) (by omega) (by omega)
        have hz1 := hz (p - 1) (by omega) (by omega)
        by_cases c2 : a (p - 1) ≤ x
        · refine Or.inr ⟨(p, b), ?_, hp, h1, h2, h3, Or.inr c2⟩
          simp (disch := omega) only [zck_t, if_pos, if_neg, e]
        · refine Or.inl ⟨(p + (-1), zup b p (b (p - 1))), ?_, ⟨?_, ?_, ?_, ?_⟩, ?_⟩
          · simp (disch := omega) only [zck_t, if_neg, e, zlt]
          · show 0 ≤ p + (-1) ∧ p + (-1) ≤ n
            omega
          · show ∀ i, 0 ≤ i → i < p + (-1) → zup b p (b (p - 1)) i = a i
            intro i i0 i1
            rw [zup_n (by omega)]
            exact h1 i i0 (by omega)
          · show ∀ i, p + (-1) < i → i ≤ n → zup b p (b (p - 1)) i = a (i - 1)
            intro i i0 i1
            by_cases q : i = p
            · rw [q, zup_s, e]
            · rw [zup_n q]
              exact h2 i (by omega) i1
          · show ∀ i, p + (-1) ≤ i → i < n → x < a i
            intro i i0 i1
            by_cases q : i = p - 1
            · rw [q]; omega
            · exact h3 i (by omega) i1
          · show (p + (-1)).toNat < p.toNat
            omega
    · refine ⟨⟨hn0, Int.le_refl n⟩, fun i _ _ => rfl, ?_, ?_⟩
      · show ∀ i, n < i → i ≤ n → a i = a (i - 1)
        intro i _ _; omega
      · show ∀ i, n ≤ i → i < n → x < a i
        intro i _ _; omega
    · have : (1000000000 : Nat) ≤ zFU := zFU_ge rfl
      show n.toNat < zFU
      omega
  obtain ⟨⟨p, b⟩, e, h0, h1, h2, h3, h4⟩ := H
  have h0 : 0 ≤ p ∧ p ≤ n := h0
  exact ⟨p, b, e, ⟨h0.1, by omega⟩, qIns_row hr hs h0 h1 h2 h3 h4⟩
/-- the next corner -/
def qNx (c i : Int) : Int := if i + 1 < c then i + 1 else 0
/-- a quotient rounded down -/
def qFl (a b : Int) : Int := if 0 < b then a / b else (-a) / (-b)
/-- whether an edge crosses a row, and where -/
abbrev qHits (y1 y2 y : Int) : Prop := min y1 y2 ≤ y ∧ y < max y1 y2
def qAt (x1 y1 x2 y2 y : Int) : Int := x1 + qFl ((y - y1) * (x2 - x1)) (y2 - y1)
def qStep (cx cy : Int → Int) (c y : Int) (l : List Int) (i : Int) : List Int := if qHits (cy i) (cy (qNx c i)) y then qIns (qAt (cx i) (cy i) (cx (qNx c i)) (cy (qNx c i)) y) l else l
/-- the crossings of a row, by size -/
def qCrP (cx cy : Int → Int) (c y j : Int) : List Int := (qR 0 j).foldl (qStep cx cy c y) []
abbrev qCr (cx cy : Int → Int) (c y : Int) : List Int := qCrP cx cy c y c
/-- corners in their room -/
abbrev qIn (cx cy : Int → Int) (c : Int) : Prop := ∀ i, 0 ≤ i → i < c → (0 ≤ cx i ∧ cx i ≤ 31) ∧ (0 ≤ cy i ∧ cy i ≤ 31)
theorem qCrP_0 {cx cy : Int → Int} {c y : Int} : qCrP cx cy c y 0 = [] := by
  unfold qCrP
  rw [qR_nil (by omega)]
  rfl
theorem qCrP_s {cx cy : Int → Int} {c y j : Int} (h : 0 ≤ j) : qCrP cx cy c y (j + 1) = qStep cx cy c y (qCrP cx cy c y j) j := by
  unfold qCrP
  rw [qR_succ h, List.foldl_append]
  rfl
theorem qQ_b {t d D : Int} (h0 : 0 ≤ t) (h1 : t ≤ D) (hD : 0 < D) : min 0 d ≤ t * d / D ∧ t * d / D ≤ max 0 d := by
  rw [Int.le_ediv_iff_mul_le hD, Int.ediv_le_iff_le_mul hD]
  rcases Int.lt_or_le d 0 with q | q
  · have e1 := Int.mul_le_mul_of_nonneg_right h1 (show 0 ≤ -d by omega)
    have e2 := Int.mul_nonneg h0 (show 0 ≤ -d by omega)
    rw [Int.mul_neg, Int.mul_neg] at e1
    rw [Int.mul_neg] at e2
    rw [show min 0 d = d by omega, show max 0 d = 0 by omega, Int.mul_comm d D]
    omega
  · have e1 := Int.mul_le_mul_of_nonneg_right h1 q
    have e2 := Int.mul_nonneg h0 q
    rw [show min 0 d = 0 by omega, show max 0 d = d by omega, Int.mul_comm d D]
    omega
theorem qAt_in {x1 y1 x2 y2 y : Int} (h : qHits y1 y2 y) (h1 : 0 ≤ x1 ∧ x1 ≤ 31) (h2 : 0 ≤ x2 ∧ x2 ≤ 31) : 0 ≤ qAt x1 y1 x2 y2 y ∧ qAt x1 y1 x2 y2 y ≤ 31 := by
  unfold qAt qFl
  by_cases q : 0 < y2 - y1
  · rw [if_pos q]
    have := qQ_b (t := y - y1) (d := x2 - x1) (D := y2 - y1) (by omega) (by omega) q
    omega
  · rw [if_neg q, ← Int.neg_mul]
    have := qQ_b (t := -(y - y1)) (d := x2 - x1) (D := -(y2 - y1)) (by omega) (by omega) (by omega)
    omega
theorem qNx_in {c i : Int} (h0 : 0 ≤ i) (h1 : i < c) : 0 ≤ qNx c i ∧ qNx c i < c := by
  unfold qNx
  split <;> omega
theorem qCrP_ok {cx cy : Int → Int} {c y : Int} (hb : qIn cx cy c) (n : Nat) : ((n : Int) ≤ c) → (qCrP cx cy c y n).Pairwise (fun a b => a ≤ b) ∧ (∀ v ∈ qCrP cx cy c y n, 0 ≤ v ∧ v ≤ 31) ∧ (qCrP cx cy c y n).length ≤ n := by
  induction n with
  | zero =>
    intro _
    rw [show ((0 : Nat) : Int) = 0 by rfl, qCrP_0]
    exact ⟨List.Pairwise.nil, fun v hv => absurd hv (by simp), Nat.le_refl _⟩
  | succ n ih =>
    intro hn
    obtain ⟨h1, h2, h3⟩ := ih (by omega)
    rw [show ((n + 1 : Nat) : Int) = (n : Int) + 1 by omega, qCrP_s (by omega)]
    unfold qStep
    split
    · rename_i hh
      refine ⟨qIns_sorted h1, fun v hv => ?_, by rw [qIns_len]; omega⟩
      rcases qIns_mem hv with q | q
      · rw [q]
        have g1 := hb n (by omega) (by omega)
        have g2 := hb (qNx c n) (qNx_in (by omega) (by omega)).1 (qNx_in (by omega) (by omega)).2
        exact qAt_in hh g1.1 g2.1
      · exact h2 v q
    · exact ⟨h1, h2, by omega⟩
theorem qCrP_odd {cx cy : Int → Int} {c y : Int} (n : Nat) : ((n : Int) < c) → (qCrP cx cy c y n).length % 2 = if (cy 0 ≤ y ↔ cy n ≤ y) then 0 else 1 := by
  induction n with
  | zero =>
    intro _
    rw [show ((0 : Nat) : Int) = 0 by rfl, qCrP_0, if_pos Iff.rfl]
    rfl
  | succ n ih =>
    intro hn
    have e := ih (by omega)
    rw [show ((n + 1 : Nat) : Int) = (n : Int) + 1 by omega, qCrP_s (by omega)]
    unfold qStep
    have hx : qNx c n = (n : Int) + 1 := by
      unfold qNx
      rw [if_pos (by omega)]
    rw [hx]
    by_cases a0 : cy 0 ≤ y <;> by_cases a1 : cy n ≤ y <;> by_cases a2 : cy ((n : Int) + 1) ≤ y <;> simp only [a0, a1, a2, iff_true, iff_false, not_true_eq_false, not_false_eq_true, if_true, if_false] at e ⊢ <;> split <;> rename_i hh <;> (try rw [qIns_len]) <;> omega
theorem qCr_even {cx cy : Int → Int} {c y : Int} (hc : 0 ≤ c) : (qCr cx cy c y).length % 2 = 0 := by
  rcases Int.lt_or_le 0 c with h | h
  · have e := qCrP_odd (cx := cx) (cy := cy) (c := c) (y := y) (c - 1).toNat (by omega)
    have e2 : qCr cx cy c y = qStep cx cy c y (qCrP cx cy c y (c - 1)) (c - 1) := by
      show qCrP cx cy c y c = _
      rw [← qCrP_s (by omega), show c - 1 + 1 = c by omega]
    rw [show (((c - 1).toNat : Nat) : Int) = c - 1 by omega] at e
    rw [e2]
    unfold qStep
    have hx : qNx c (c - 1) = 0 := by
      unfold qNx
      rw [if_neg (by omega)]
    rw [hx]
    by_cases a0 : cy 0 ≤ y <;> by_cases a1 : cy (c - 1) ≤ y <;> simp only [a0, a1, iff_true, iff_false, not_true_eq_false, not_false_eq_true, if_true, if_false] at e ⊢ <;> split <;> rename_i hh <;> (try rw [qIns_len]) <;> omega
  · rw [show c = 0 by omega]
    show (qCrP cx cy 0 y 0).length % 2 = 0
    rw [qCrP_0]
    rfl
theorem qCr_none {cx cy : Int → Int} {c y : Int} (h : (∀ i, 0 ≤ i → i < c → y < cy i) ∨ (∀ i, 0 ≤ i → i < c → cy i ≤ y)) (n : Nat) : ((n : Int) ≤ c) → qCrP cx cy c y n = [] := by
  induction n with
  | zero => intro _; exact qCrP_0
  | succ n ih =>
    intro hn
    rw [show ((n + 1 : Nat) : Int) = (n : Int) + 1 by omega, qCrP_s (by omega), ih (by omega)]
    unfold qStep
    rw [if_neg]
    intro hh
    have g := qNx_in (c := c) (i := n) (by omega) (by omega)
    rcases h with h | h
    · have g1 := h n (by omega) (by omega)
      have g2 := h (qNx c n) g.1 g.2
      omega
    · have g1 := h n (by omega) (by omega)
      have g2 := h (qNx c n) g.1 g.2
      omega
theorem qMul_a {a b : Int} {A B : Nat} (ha : a.natAbs ≤ A) (hb : b.natAbs ≤ B) : (a * b).natAbs ≤ A * B := by
  rw [Int.natAbs_mul]
  exact Nat.mul_le_mul ha hb
theorem pE_cross {cx cy cr : Int → Int} {c cc y : Int} (hc : 0 ≤ c ∧ c ≤ 8) (hb : qIn cx cy c) (hy : -1000 ≤ y ∧ y ≤ 1000) : ∃ a n, f_X0_cross cx cy cr c cc y = some (a, n) ∧ qRow a n (qCr cx cy c y) := by
  have H : ∃ r, zlp (fun z => f_X0_cross_L7 cx cy c y z.1 z.2.1 z.2.2) zFU (0, cr, 0) = some r ∧ (∃ i a n, r = .inl (i, a, n) ∧ qRow a n (qCr cx cy c y)) := by
    refine zlp_for (fun s : Int × (Int → Int) × Int => s.1) (lo := 0) (hi := c) (fun j s => qRow s.2.1 s.2.2 (qCrP cx cy c y j)) _ hc.1 (by omega) ?_ ?_ (0, cr, 0) rfl ?_
    · intro s h0 h1 hR
      obtain ⟨i, a, n⟩ := s
      have h0 : 0 ≤ i := h0
      have h1 : i < c := h1
      have hR : qRow a n (qCrP cx cy c y i) := hR
      show ∃ s', f_X0_cross_L7 cx cy c y i a n = some (.inl s') ∧ _ ∧ _
      have hx := qNx_in h0 h1
      have g1 := hb i h0 h1
      have g2 := hb (qNx c i) hx.1 hx.2
      have ok := qCrP_ok (y := y) hb i.toNat (by omega)
      rw [show ((i.toNat : Nat) : Int) = i by omega] at ok
      have hnl := hR.1
      have hbeh : f_X0_cornerBehind c i = some (qNx c i) := by
        unfold f_X0_cornerBehind qNx
        by_cases q : i + 1 < c
        · rw [if_pos q]
          simp (disch := omega) only [zck_t, if_neg]
        · rw [if_neg q]
          simp (disch := omega) only [zck_t, if_pos]
      unfold f_X0_cross_L7
      by_cases hh : qHits (cy i) (cy (qNx c i)) y
      · have hx0 := qAt_in hh g1.1 g2.1
        obtain ⟨p, b, e, hp, hq⟩ := pE_insert (x := qAt (cx i) (cy i) (cx (qNx c i)) (cy (qNx c i)) y) hR ok.1 (by omega) (by omega) (fun k k0 k1 => by
          have := ok.2.1 (a k) (List.mem_iff_getElem?.mpr ⟨k.toNat, qRow_at hR k0 k1⟩)
          omega)
        have hput : f_X0_putCrossing a n (qAt (cx i) (cy i) (cx (qNx c i)) (cy (qNx c i)) y) = some (zup b p (qAt (cx i) (cy i) (cx (qNx c i)) (cy (qNx c i)) y), n + 1) := by
          unfold f_X0_putCrossing
          rw [e]
          unfold f_X0_putCrossing_51
          simp (disch := omega) only [zck_t, if_pos, zb2_e, zlt]
        have hm := qMul_a (a := y - cy i) (b := cx (qNx c i) - cx i) (A := 31) (B := 31) (by omega) (by omega)
        have hdiv : f_J9_floorDiv_7cf53 ((y - cy i) * (cx (qNx c i) - cx i)) (cy (qNx c i) - cy i) = some (qFl ((y - cy i) * (cx (qNx c i) - cx i)) (cy (qNx c i) - cy i)) := by
          unfold qFl
          by_cases q : 0 < cy (qNx c i) - cy i
          · rw [if_pos q]
            exact pE_fdiv (by omega) (by omega)
          · rw [if_neg q]
            exact pE_fdivN (by omega) (by omega)
        refine ⟨(i + 1, zup b p (qAt (cx i) (cy i) (cx (qNx c i)) (cy (qNx c i)) y), n + 1), ?_, rfl, ?_⟩
        · simp (disch := omega) only [zck_t, if_pos, if_neg, zlt, hbeh, zb1_e, hdiv]
          rw [show cx i + qFl ((y - cy i) * (cx (qNx c i) - cx i)) (cy (qNx c i) - cy i) = qAt (cx i) (cy i) (cx (qNx c i)) (cy (qNx c i)) y from rfl, hput]
          rfl
        · show qRow _ _ (qCrP cx cy c y (i + 1))
          rw [qCrP_s h0]
          unfold qStep
          rw [if_pos hh]
          exact hq
      · refine ⟨(i + 1, a, n), ?_, rfl, ?_⟩
        · by_cases q1 : cy i = cy (qNx c i)
          · simp (disch := omega) only [zck_t, if_pos, if_neg, zlt, hbeh, zb1_e]
          · by_cases q2 : y < min (cy i) (cy (qNx c i))
            · simp (disch := omega) only [zck_t, if_pos, if_neg, zlt, hbeh, zb1_e]
            · simp (disch := omega) only [zck_t, if_pos, if_neg, zlt, hbeh, zb1_e]
        · show qRow _ _ (qCrP cx cy c y (i + 1))
          rw [qCrP_s h0]
          unfold qStep
          rw [if_neg hh]
          exact hR
    · intro s h0 hR
      obtain ⟨i, a, n⟩ := s
      have h0 : i = c := h0
      show ∃ r, f_X0_cross_L7 cx cy c y i a n = some (.inr r) ∧ _
      refine ⟨.inl (i, a, n), ?_, i, a, n, rfl, hR⟩
      unfold f_X0_cross_L7
      simp (disch := omega) only [zck_t, if_pos]
    · show qRow cr 0 (qCrP cx cy c y 0)
      rw [qCrP_0]
      exact qRow_nil _
  obtain ⟨r, e, i, a, n, hr, hq⟩ := H
  subst hr
  refine ⟨a, n, ?_, hq⟩
  unfold f_X0_cross
  rw [e]
  rfl
