/-! ===== cells that are touched ===== -/
theorem zlp_for2 {σ ρ : Type} {body : σ → Option (σ ⊕ ρ)} (ix : σ → Int) {lo hi : Int} (R : Int → σ → Prop) (P : ρ → Prop) (hlh : lo ≤ hi) (hf : hi - lo < 999999999)
    (hs : ∀ s, lo ≤ ix s → ix s < hi → R (ix s) s → (∃ s', body s = some (.inl s') ∧ ix s' = ix s + 1 ∧ R (ix s + 1) s') ∨ (∃ r, body s = some (.inr r) ∧ P r))
    (he : ∀ s, ix s = hi → R hi s → ∃ r, body s = some (.inr r) ∧ P r)
    (s0 : σ) (h0 : ix s0 = lo) (hR : R lo s0) : ∃ r, zlp body zFU s0 = some r ∧ P r := by
  refine zlp_rule (fun s => lo ≤ ix s ∧ ix s ≤ hi ∧ R (ix s) s) P (fun s => (hi - ix s).toNat) ?_ zFU s0 ?_ ?_
  · intro s hI
    obtain ⟨h1, h2, h3⟩ := hI
    by_cases h : ix s < hi
    · rcases hs s h1 h h3 with ⟨s', e, e2, r⟩ | ⟨r, e, hp⟩
      · refine Or.inl ⟨s', e, ⟨by omega, by omega, by rw [e2]; exact r⟩, ?_⟩
        show (hi - ix s').toNat < (hi - ix s).toNat
        omega
      · exact Or.inr ⟨r, e, hp⟩
    · have q : ix s = hi := by omega
      rw [q] at h3
      obtain ⟨r, e, hp⟩ := he s q h3
      exact Or.inr ⟨r, e, hp⟩
  · exact ⟨by omega, by omega, by rw [h0]; exact hR⟩
  · have : (1000000000 : Nat) ≤ zFU := zFU_ge rfl
    show (hi - ix s0).toNat < zFU
    omega
/-- the sum of an array's first numbers -/
def qCt (a : Int → Int) (n : Int) : Int := (qR 0 n).foldl (fun s v => s + a v) 0
theorem qCt_0 {a : Int → Int} : qCt a 0 = 0 := by
  unfold qCt
  rw [qR_nil (Int.le_refl _)]
  rfl
theorem qCt_s {a : Int → Int} {n : Int} (h : 0 ≤ n) : qCt a (n + 1) = qCt a n + a n := by
  unfold qCt
  rw [qR_succ h, List.foldl_append]
  rfl
theorem qCt_congr {a b : Int → Int} (n : Nat) : (∀ v, 0 ≤ v → v < (n : Int) → a v = b v) → qCt a n = qCt b n := by
  induction n with
  | zero => intro _; exact qCt_0.trans qCt_0.symm
  | succ n ih =>
    intro h
    rw [show ((n + 1 : Nat) : Int) = (n : Int) + 1 by omega, qCt_s (by omega), qCt_s (by omega), ih (fun v h0 h1 => h v h0 (by omega)), h n (by omega) (by omega)]
theorem qCt_up {a : Int → Int} {v x : Int} (n : Nat) : 0 ≤ v → v < (n : Int) → qCt (zup a v x) n = qCt a n + x - a v := by
  induction n with
  | zero => intro h0 h1; omega
  | succ n ih =>
    intro h0 h1
    rw [show ((n + 1 : Nat) : Int) = (n : Int) + 1 by omega, qCt_s (by omega), qCt_s (by omega)]
    by_cases q : v = n
    · have e : qCt (zup a v x) n = qCt a n := qCt_congr n (fun w w0 w1 => zup_n (by omega))
      rw [e, q, zup_s]
      omega
    · rw [ih h0 (by omega), zup_n (by omega)]
      omega
theorem qCt_b {a : Int → Int} (n : Nat) : (∀ v, 0 ≤ v → v < (n : Int) → a v = 0 ∨ a v = 1) → 0 ≤ qCt a n ∧ qCt a n ≤ n ∧ (qCt a n = 0 → ∀ v, 0 ≤ v → v < (n : Int) → a v = 0) := by
  induction n with
  | zero => intro _; rw [show ((0 : Nat) : Int) = 0 by rfl, qCt_0]; exact ⟨by omega, by omega, fun _ v h0 h1 => by omega⟩
  | succ n ih =>
    intro h
    obtain ⟨g1, g2, g3⟩ := ih (fun v h0 h1 => h v h0 (by omega))
    have hn := h n (by omega) (by omega)
    rw [show ((n + 1 : Nat) : Int) = (n : Int) + 1 by omega, qCt_s (by omega)]
    refine ⟨by omega, by omega, fun z v h0 h1 => ?_⟩
    by_cases q : v = n
    · rw [q]; omega
    · exact g3 (by omega) v h0 (by omega)
/-- a cell, if there is one -/
def qCell (x y : Int) : List Int := if (0 ≤ x ∧ x ≤ 31) ∧ (0 ≤ y ∧ y ≤ 31) then [32 * y + x] else []
def qStJ (x y dx dy j : Int) : List Int := qCell (x + dx * j / qG dx dy) (y + dy * j / qG dx dy)
/-- the cells of a stitch -/
def qSti (x y dx dy : Int) : List Int := qFM (qStJ x y dx dy) 0 (qG dx dy + 1)
/-- which cells are touched -/
def qInd (S : List Int) (v : Int) : Int := if v ∈ S then 1 else 0
def qCells (a : Int → Int) (S : List Int) : Prop := ∀ v, 0 ≤ v → v < 1024 → a v = qInd S v
theorem qInd_01 {S : List Int} {v : Int} : qInd S v = 0 ∨ qInd S v = 1 := by
  unfold qInd
  split <;> omega
theorem qCells_app {a : Int → Int} {S : List Int} {w : Int} (h : qCells a S) : qCells (zup a w 1) (S ++ [w]) := by
  intro v h0 h1
  unfold qInd
  by_cases q : v = w
  · rw [q, zup_s, if_pos (List.mem_append.mpr (Or.inr (List.mem_singleton.mpr rfl)))]
  · rw [zup_n q, h v h0 h1]
    unfold qInd
    by_cases z : v ∈ S
    · rw [if_pos z, if_pos (List.mem_append.mpr (Or.inl z))]
    · rw [if_neg z, if_neg]
      intro g
      rcases List.mem_append.mp g with g | g
      · exact z g
      · exact q (List.mem_singleton.mp g)
theorem qCells_old {a : Int → Int} {S : List Int} {w : Int} (h : qCells a S) (hw : w ∈ S) : qCells a (S ++ [w]) := by
  intro v h0 h1
  rw [h v h0 h1]
  unfold qInd
  by_cases z : v ∈ S
  · rw [if_pos z, if_pos (List.mem_append.mpr (Or.inl z))]
  · rw [if_neg z, if_neg]
    intro g
    rcases List.mem_append.mp g with g | g
    · exact z g
    · rw [List.mem_singleton.mp g] at z
      exact z hw
theorem pE_touch {a : Int → Int} {n x y : Int} {S : List Int} (h : qCells a S) (hn : n = qCt a 1024) (hx : -100000 ≤ x ∧ x ≤ 100000) (hy : -100000 ≤ y ∧ y ≤ 100000) : ∃ a' n', f_X5_touch a n x y = some (a', n') ∧ qCells a' (S ++ qCell x y) ∧ n' = qCt a' 1024 := by
  unfold f_X5_touch
  rw [pE_within (by omega), pE_within (by omega)]
  unfold qCell
  by_cases c : (0 ≤ x ∧ x ≤ 31) ∧ (0 ≤ y ∧ y ≤ 31)
  · rw [if_pos c]
    have hv := h (32 * y + x) (by omega) (by omega)
    have h01 := qInd_01 (S := S) (v := 32 * y + x)
    rw [show y * 32 + x = 32 * y + x by omega]
    by_cases z : a (32 * y + x) = 0
    · refine ⟨zup a (32 * y + x) 1, n + 1, ?_, qCells_app h, ?_⟩
      · simp (disch := omega) only [zck_t, if_pos, if_neg, zb1_e, zlt]
      · have := qCt_up (a := a) (v := 32 * y + x) (x := 1) 1024 (by omega) (by omega)
        rw [show ((1024 : Nat) : Int) = 1024 by rfl] at this
        omega
    · refine ⟨a, n, ?_, qCells_old h ?_, hn⟩
      · simp (disch := omega) only [zck_t, if_pos, if_neg, zb1_e, zlt]
      · unfold qInd at hv
        by_cases w : 32 * y + x ∈ S
        · exact w
        · rw [if_neg w] at hv
          exact absurd hv z
  · rw [if_neg c, List.append_nil]
    refine ⟨a, n, ?_, h, hn⟩
    by_cases c1 : 0 ≤ x ∧ x ≤ 31
    · simp (disch := omega) only [zck_t, if_pos, if_neg, zb1_e, if_true]
    · simp (disch := omega) only [zck_t, if_pos, if_neg, zb1_e, if_true]
theorem qDj_b {d j n : Int} (hn : 0 < n ∧ n ≤ 100) (hd : -100 ≤ d ∧ d ≤ 100) (hj : 0 ≤ j ∧ j ≤ n) : -100 ≤ d * j / n ∧ d * j / n ≤ 100 := by
  have := qQ_b (t := j) (d := d) (D := n) hj.1 hj.2 hn.1
  rw [Int.mul_comm d j]
  omega
/-- what a way touches, if it is a stitch -/
def qTs (p q : Int × Int) : List Int := if qG (q.1 - p.1) (q.2 - p.2) = 0 ∨ 12 < qG (q.1 - p.1) (q.2 - p.2) then [] else qSti p.1 p.2 (q.1 - p.1) (q.2 - p.2)
def qTo : Int × Int → List (Int × Int) → List Int
  | _, [] => []
  | p, q :: L => qTs p q ++ qTo q L
theorem qTo_app {p : Int × Int} {A B : List (Int × Int)} : qTo p (A ++ B) = qTo p A ++ qTo (qLast p A) B := by
  induction A generalizing p with
  | nil => rfl
  | cons q A ih =>
    show qTs p q ++ qTo q (A ++ B) = qTs p q ++ qTo q A ++ qTo (qLast q A) B
    rw [ih, List.append_assoc]
def qToL : List (Int × Int) → List Int
  | [] => []
  | p :: T => qTo p T
theorem pE_walkTo {a : Int → Int} {n x1 y1 x2 y2 : Int} {S : List Int} (h : qCells a S) (hn : n = qCt a 1024) (hp : qBox (x1, y1)) (hq : qBox (x2, y2)) : ∃ a' n', f_X5_walkTo a n x1 y1 x2 y2 = some (a', n') ∧ qCells a' (S ++ qTs (x1, y1) (x2, y2)) ∧ n' = qCt a' 1024 := by
  obtain ⟨⟨a1, a2⟩, a3, a4⟩ := hp
  obtain ⟨⟨b1, b2⟩, b3, b4⟩ := hq
  replace a1 : -3 ≤ x1 := a1
  replace a2 : x1 ≤ 34 := a2
  replace a3 : 0 ≤ y1 := a3
  replace a4 : y1 ≤ 31 := a4
  replace b1 : -3 ≤ x2 := b1
  replace b2 : x2 ≤ 34 := b2
  replace b3 : 0 ≤ y2 := b3
  replace b4 : y2 ≤ 31 := b4
  have hg := qG_e (x2 - x1) (y2 - y1)
  have hge : f_X6_greaterDifference (x2 - x1) (y2 - y1) = some (qG (x2 - x1) (y2 - y1)) := pE_great (by omega) (by omega)
  unfold f_X5_walkTo
  unfold qTs
  show ∃ a' n', _ ∧ qCells a' (S ++ (if qG (x2 - x1) (y2 - y1) = 0 ∨ 12 < qG (x2 - x1) (y2 - y1) then [] else qSti x1 y1 (x2 - x1) (y2 - y1))) ∧ n' = qCt a' 1024
  by_cases z : qG (x2 - x1) (y2 - y1) = 0 ∨ 12 < qG (x2 - x1) (y2 - y1)
  · rw [if_pos z, List.append_nil]
    refine ⟨a, n, ?_, h, hn⟩
    by_cases z1 : qG (x2 - x1) (y2 - y1) = 0
    · simp (disch := omega) only [zck_t, if_pos, hge, zb1_e]
    · simp (disch := omega) only [zck_t, if_neg, hge, zb1_e]
  · rw [if_neg z]
    have H : ∃ q, zlp (fun z => f_X5_walkTo_L28 x1 y1 x2 y2 (qG (x2 - x1) (y2 - y1)) z.1 z.2.1 z.2.2) zFU (0, a, n) = some q ∧ (qCells q.2.1 (S ++ qSti x1 y1 (x2 - x1) (y2 - y1)) ∧ q.2.2 = qCt q.2.1 1024) := by
      refine zlp_for (fun s : Int × (Int → Int) × Int => s.1) (lo := 0) (hi := qG (x2 - x1) (y2 - y1) + 1) (fun j s => qCells s.2.1 (S ++ qFM (qStJ x1 y1 (x2 - x1) (y2 - y1)) 0 j) ∧ s.2.2 = qCt s.2.1 1024) _ (by omega) (by omega) ?_ ?_ (0, a, n) rfl ?_
      · intro s j0 j1 hR
        obtain ⟨j, a, n⟩ := s
        replace j0 : 0 ≤ j := j0
        replace j1 : j < qG (x2 - x1) (y2 - y1) + 1 := j1
        obtain ⟨hR1, hR2⟩ := hR
        replace hR1 : qCells a (S ++ qFM (qStJ x1 y1 (x2 - x1) (y2 - y1)) 0 j) := hR1
        replace hR2 : n = qCt a 1024 := hR2
        have e1 := pE_place (a := x1) (b := x2) (j := j) (n := qG (x2 - x1) (y2 - y1)) (by omega) (by omega) (by omega)
        have e2 := pE_place (a := y1) (b := y2) (j := j) (n := qG (x2 - x1) (y2 - y1)) (by omega) (by omega) (by omega)
        have d1 := qDj_b (d := x2 - x1) (j := j) (n := qG (x2 - x1) (y2 - y1)) (by omega) (by omega) (by omega)
        have d2 := qDj_b (d := y2 - y1) (j := j) (n := qG (x2 - x1) (y2 - y1)) (by omega) (by omega) (by omega)
        obtain ⟨a', n', et, hc, hn'⟩ := pE_touch (x := x1 + (x2 - x1) * j / qG (x2 - x1) (y2 - y1)) (y := y1 + (y2 - y1) * j / qG (x2 - x1) (y2 - y1)) hR1 hR2 (by omega) (by omega)
        refine ⟨(j + 1, a', n'), ?_, rfl, ?_, hn'⟩
        · show f_X5_walkTo_L28 x1 y1 x2 y2 (qG (x2 - x1) (y2 - y1)) j a n = _
          unfold f_X5_walkTo_L28
          simp (disch := omega) only [zck_t, if_neg, e1, e2, zb1_e]
          unfold qPl
          rw [et]
          rfl
        · show qCells a' (S ++ qFM (qStJ x1 y1 (x2 - x1) (y2 - y1)) 0 (j + 1))
          rw [qFM_succ j0, ← List.append_assoc]
          exact hc
      · intro s j0 hR
        obtain ⟨j, a, n⟩ := s
        replace j0 : j = qG (x2 - x1) (y2 - y1) + 1 := j0
        refine ⟨(j, a, n), ?_, hR⟩
        show f_X5_walkTo_L28 x1 y1 x2 y2 (qG (x2 - x1) (y2 - y1)) j a n = _
        unfold f_X5_walkTo_L28
        simp (disch := omega) only [zck_t, if_pos]
      · refine ⟨?_, hn⟩
        show qCells a (S ++ qFM _ 0 0)
        rw [qFM_nil (Int.le_refl _), List.append_nil]
        exact h
    obtain ⟨⟨j, a', n'⟩, e, h1, h2⟩ := H
    refine ⟨a', n', ?_, h1, h2⟩
    simp (disch := omega) only [zck_t, if_neg, if_pos, hge, zb1_e]
    rw [e]
    rfl
theorem pE_walk {a xs ys : Int → Int} {n np : Int} {L : List (Int × Int)} (hpt : qPt xs ys np L) (hl : L.length ≤ 2078) (hbox : ∀ q ∈ L, qBox q) : ∃ a' n', f_X5_walk xs ys np a n = some (a', n') ∧ qCells a' (qToL L) ∧ n' = qCt a' 1024 := by
  have H1 : ∃ q, zlp (fun z => f_X5_walk_L7 xs ys np 0 z.1 z.2) zFU (0, a) = some q ∧ (∀ i, 0 ≤ i → i < 1024 → q.2 i = 0) := by
    refine zlp_for (fun s : Int × (Int → Int) => s.1) (lo := 0) (hi := 1024) (fun j s => ∀ i, 0 ≤ i → i < j → s.2 i = 0) _ (by omega) (by omega) ?_ ?_ (0, a) rfl (fun i a b => by omega)
    · intro s h0 h1 hR
      obtain ⟨j, a⟩ := s
      replace h0 : 0 ≤ j := h0
      replace h1 : j < 1024 := h1
      refine ⟨(j + 1, zup a j 0), ?_, rfl, ?_⟩
      · show f_X5_walk_L7 xs ys np 0 j a = _
        unfold f_X5_walk_L7
        simp (disch := omega) only [zck_t, if_neg, zlt]
      · intro i i0 i1
        show zup a j 0 i = 0
        by_cases q : i = j
        · rw [q, zup_s]
        · rw [zup_n q]
          exact hR i i0 (by show i < j; replace i1 : i < j + 1 := i1; omega)
    · intro s h0 hR
      obtain ⟨j, a⟩ := s
      replace h0 : j = 1024 := h0
      refine ⟨(j, a), ?_, hR⟩
      show f_X5_walk_L7 xs ys np 0 j a = _
      unfold f_X5_walk_L7
      simp (disch := omega) only [zck_t, if_pos]
  obtain ⟨⟨j1, a1⟩, e1, hz⟩ := H1
  replace hz : ∀ i, 0 ≤ i → i < 1024 → a1 i = 0 := hz
  have hc0 : qCells a1 [] := fun v h0 h1 => by rw [hz v h0 h1]; rfl
  have hct0 : qCt a1 1024 = 0 := by
    have e := qCt_congr (a := a1) (b := fun _ => 0) 1024 (fun v h0 h1 => hz v h0 h1)
    have e2 : ∀ n : Nat, qCt (fun _ => 0) (n : Int) = 0 := by
      intro n
      induction n with
      | zero => exact qCt_0
      | succ n ih => rw [show ((n + 1 : Nat) : Int) = (n : Int) + 1 by omega, qCt_s (by omega), ih]; rfl
    rw [show ((1024 : Nat) : Int) = 1024 by rfl] at e
    rw [e]
    exact e2 1024
  have hnp := hpt.1
  have H : ∃ q, zlp (fun z => f_X5_walk_L31 xs ys np z.1 z.2.1 z.2.2) zFU (1, a1, 0) = some q ∧ (qCells q.2.1 (qToL L) ∧ q.2.2 = qCt q.2.1 1024) := by
    cases L with
    | nil =>
      replace hnp : np = 0 := hnp
      refine zlp_for (fun s : Int × (Int → Int) × Int => s.1) (lo := 1) (hi := 1) (fun j s => qCells s.2.1 [] ∧ s.2.2 = qCt s.2.1 1024) _ (by omega) (by omega) (fun s h0 h1 _ => by omega) ?_ (1, a1, 0) rfl ⟨hc0, hct0.symm⟩
      intro s h0 hR
      obtain ⟨j, a, n⟩ := s
      replace h0 : j = 1 := h0
      refine ⟨(j, a, n), ?_, hR⟩
      show f_X5_walk_L31 xs ys np j a n = _
      unfold f_X5_walk_L31
      simp (disch := omega) only [zck_t, if_pos]
    | cons p0 T =>
      obtain ⟨hd, hn1, hall⟩ := qPt_head hpt
      have hboxT : ∀ q ∈ T, qBox q := fun q hq => hbox q (List.mem_cons.mpr (Or.inr hq))
      refine zlp_for (fun s : Int × (Int → Int) × Int => s.1) (lo := 1) (hi := np) (fun j s => qCells s.2.1 (qTo p0 (T.take (j - 1).toNat)) ∧ s.2.2 = qCt s.2.1 1024) _ hn1 (by omega) ?_ ?_ (1, a1, 0) rfl ⟨by show qCells a1 (qTo p0 (T.take (1 - 1 : Int).toNat)); rw [show (1 - 1 : Int).toNat = 0 from rfl, List.take_zero]; exact hc0, hct0.symm⟩
      · intro s h0 h1 hR
        obtain ⟨j, a, n⟩ := s
        replace h0 : 1 ≤ j := h0
        replace h1 : j < np := h1
        obtain ⟨hR1, hR2⟩ := hR
        replace hR1 : qCells a (qTo p0 (T.take (j - 1).toNat)) := hR1
        replace hR2 : n = qCt a 1024 := hR2
        have htk := qPt_tail hpt h0 h1
        have hpos : (xs (j - 1), ys (j - 1)) = qLast p0 (T.take (j - 1).toNat) := by
          by_cases z : j = 1
          · rw [z]
            show (xs 0, ys 0) = p0
            exact hd
          · have := qPt_tail hpt (i := j - 1) (by omega) (by omega)
            rw [this, qLast_1]
        have hb1 : qBox (xs (j - 1), ys (j - 1)) := by
          rw [hpos]
          exact qLast_in (hbox p0 (List.mem_cons.mpr (Or.inl rfl))) (fun q hq => hboxT q (List.mem_of_mem_take hq))
        have hb2 : qBox (xs j, ys j) := hboxT _ (List.mem_of_mem_take (i := j.toNat) (by rw [htk]; exact List.mem_append.mpr (Or.inr (List.mem_singleton.mpr rfl))))
        obtain ⟨a', n', ew, hc, hn'⟩ := pE_walkTo hR1 hR2 hb1 hb2
        refine ⟨(j + 1, a', n'), ?_, rfl, ?_, hn'⟩
        · show f_X5_walk_L31 xs ys np j a n = _
          unfold f_X5_walk_L31
          simp (disch := omega) only [zck_t, if_neg, ew, zb2_e]
        · show qCells a' (qTo p0 (T.take (j + 1 - 1).toNat))
          rw [show j + 1 - 1 = j by omega, htk, qTo_app, ← hpos]
          show qCells a' (_ ++ (qTs (xs (j - 1), ys (j - 1)) (xs j, ys j) ++ []))
          rw [List.append_nil]
          exact hc
      · intro s h0 hR
        obtain ⟨j, a, n⟩ := s
        replace h0 : j = np := h0
        rw [hall] at hR
        refine ⟨(j, a, n), ?_, hR⟩
        show f_X5_walk_L31 xs ys np j a n = _
        unfold f_X5_walk_L31
        simp (disch := omega) only [zck_t, if_pos]
  obtain ⟨⟨j, a', n'⟩, e, h1, h2⟩ := H
  refine ⟨a', n', ?_, h1, h2⟩
  unfold f_X5_walk
  rw [e1]
  simp only [zb2_e]
  rw [e]
  rfl
