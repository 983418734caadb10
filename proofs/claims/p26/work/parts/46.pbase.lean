/-! ===== ranges, loops that count, rows of points, numbers ===== -/
/-- the whole numbers from lo up to hi, hi left out -/
def qR (lo hi : Int) : List Int := (List.range (hi - lo).toNat).map (fun (i : Nat) => lo + (i : Int))
theorem qR_nil {lo hi : Int} (h : hi ≤ lo) : qR lo hi = [] := by
  unfold qR
  rw [show (hi - lo).toNat = 0 by omega]
  rfl
theorem qR_succ {lo hi : Int} (h : lo ≤ hi) : qR lo (hi + 1) = qR lo hi ++ [hi] := by
  unfold qR
  rw [show (hi + 1 - lo).toNat = (hi - lo).toNat + 1 by omega, List.range_succ, List.map_append]
  congr 1
  show [lo + ((hi - lo).toNat : Int)] = [hi]
  congr 1
  omega
theorem qR_cons {lo hi : Int} (h : lo < hi) : qR lo hi = lo :: qR (lo + 1) hi := by
  unfold qR
  rw [show (hi - lo).toNat = (hi - (lo + 1)).toNat + 1 by omega, List.range_succ_eq_map, List.map_cons, List.map_map]
  congr 1
  · show lo + ((0 : Nat) : Int) = lo
    omega
  · apply List.map_congr_left
    intro a _
    show lo + ((a + 1 : Nat) : Int) = lo + 1 + (a : Int)
    omega
theorem qR_mem {lo hi x : Int} : x ∈ qR lo hi ↔ lo ≤ x ∧ x < hi := by
  unfold qR
  rw [List.mem_map]
  constructor
  · intro ⟨i, h1, h2⟩
    have := List.mem_range.mp h1
    omega
  · intro h
    exact ⟨(x - lo).toNat, List.mem_range.mpr (by omega), by omega⟩
theorem qR_len {lo hi : Int} : (qR lo hi).length = (hi - lo).toNat := by
  unfold qR
  rw [List.length_map, List.length_range]
/-- one after another, for the whole numbers from lo up to hi -/
def qFM {α : Type} (g : Int → List α) (lo hi : Int) : List α := (qR lo hi).flatMap g
theorem qFM_nil {α : Type} {g : Int → List α} {lo hi : Int} (h : hi ≤ lo) : qFM g lo hi = [] := by
  unfold qFM
  rw [qR_nil h]
  rfl
theorem qFM_succ {α : Type} {g : Int → List α} {lo hi : Int} (h : lo ≤ hi) : qFM g lo (hi + 1) = qFM g lo hi ++ g hi := by
  unfold qFM
  rw [qR_succ h, List.flatMap_append]
  simp
theorem qFM_cons {α : Type} {g : Int → List α} {lo hi : Int} (h : lo < hi) : qFM g lo hi = g lo ++ qFM g (lo + 1) hi := by
  unfold qFM
  rw [qR_cons h]
  rfl
theorem qFM_congr {α : Type} {g g' : Int → List α} {lo hi : Int} (h : ∀ i, lo ≤ i → i < hi → g i = g' i) : qFM g lo hi = qFM g' lo hi := by
  unfold qFM
  have : ∀ l : List Int, (∀ i ∈ l, g i = g' i) → l.flatMap g = l.flatMap g' := by
    intro l
    induction l with
    | nil => intro _; rfl
    | cons a l ih =>
      intro hl
      rw [List.flatMap_cons, List.flatMap_cons, hl a (List.mem_cons_self ..), ih (fun i hi => hl i (List.mem_cons_of_mem _ hi))]
  exact this _ (fun i hi => h i (qR_mem.mp hi).1 (qR_mem.mp hi).2)
/-- what stands ahead of a step is a part of the whole -/
theorem qFM_pre {α : Type} {g : Int → List α} {lo : Int} (n : Nat) : ∀ j : Int, lo ≤ j → (qFM g lo j).length ≤ (qFM g lo (j + n)).length := by
  induction n with
  | zero => intro j _; rw [show j + ((0 : Nat) : Int) = j by omega]; exact Nat.le_refl _
  | succ n ih =>
    intro j hj
    rw [show j + ((n + 1 : Nat) : Int) = (j + n) + 1 by omega, qFM_succ (by omega), List.length_append]
    have := ih j hj
    omega
theorem qFM_le {α : Type} {g : Int → List α} {lo j hi : Int} (h : lo ≤ j) (h2 : j ≤ hi) : (qFM g lo j).length ≤ (qFM g lo hi).length := by
  have := qFM_pre (g := g) (lo := lo) (hi - j).toNat j h
  rw [show j + ((hi - j).toNat : Int) = hi by omega] at this
  exact this
theorem qFM_lt {α : Type} {g : Int → List α} {lo j hi : Int} (h : lo ≤ j) (h2 : j < hi) : (qFM g lo j).length + (g j).length ≤ (qFM g lo hi).length := by
  have := qFM_le (g := g) (lo := lo) (j := j + 1) (hi := hi) (by omega) (by omega)
  rw [qFM_succ h, List.length_append] at this
  exact this
/-- a loop that counts: what holds at its head for each count -/
theorem zlp_for {σ ρ : Type} {body : σ → Option (σ ⊕ ρ)} (ix : σ → Int) {lo hi : Int} (R : Int → σ → Prop) (P : ρ → Prop) (hlh : lo ≤ hi) (hf : hi - lo < 999999999)
    (hs : ∀ s, lo ≤ ix s → ix s < hi → R (ix s) s → ∃ s', body s = some (.inl s') ∧ ix s' = ix s + 1 ∧ R (ix s + 1) s')
    (he : ∀ s, ix s = hi → R hi s → ∃ r, body s = some (.inr r) ∧ P r)
    (s0 : σ) (h0 : ix s0 = lo) (hR : R lo s0) : ∃ r, zlp body zFU s0 = some r ∧ P r := by
  refine zlp_rule (fun s => lo ≤ ix s ∧ ix s ≤ hi ∧ R (ix s) s) P (fun s => (hi - ix s).toNat) ?_ zFU s0 ?_ ?_
  · intro s hI
    obtain ⟨h1, h2, h3⟩ := hI
    by_cases h : ix s < hi
    · obtain ⟨s', e, e2, r⟩ := hs s h1 h h3
      refine Or.inl ⟨s', e, ⟨by omega, by omega, by rw [e2]; exact r⟩, ?_⟩
      show (hi - ix s').toNat < (hi - ix s).toNat
      omega
    · have q : ix s = hi := by omega
      rw [q] at h3
      obtain ⟨r, e, hp⟩ := he s q h3
      exact Or.inr ⟨r, e, hp⟩
  · exact ⟨by omega, by omega, by rw [h0]; exact hR⟩
  · have : (1000000000 : Nat) ≤ zFU := zFU_ge rfl
    show (hi - ix s0).toNat < zFU
    omega
/-- a row of numbers, as an array holds it -/
def qRow {α : Type} (a : Int → α) (n : Int) (l : List α) : Prop := n = (l.length : Int) ∧ ∀ i : Nat, i < l.length → l[i]? = some (a (i : Int))
theorem qRow_nil {α : Type} (a : Int → α) : qRow a 0 [] := ⟨rfl, fun i h => absurd h (Nat.not_lt_zero _)⟩
theorem qRow_put {α : Type} {a : Int → α} {n : Int} {l : List α} (h : qRow a n l) (x : α) : qRow (zup a n x) (n + 1) (l ++ [x]) := by
  obtain ⟨h1, h2⟩ := h
  refine ⟨by rw [List.length_append]; simp; omega, fun i hi => ?_⟩
  rw [List.length_append] at hi
  by_cases q : i < l.length
  · rw [List.getElem?_append_left q, h2 i q, zup_n (by omega)]
  · have e : i = l.length := by simp at hi; omega
    subst e
    rw [List.getElem?_append_right (Nat.le_refl _), Nat.sub_self, h1, zup_s]
    rfl
theorem qRow_at {α : Type} {a : Int → α} {n : Int} {l : List α} (h : qRow a n l) {i : Int} (h0 : 0 ≤ i) (h1 : i < n) : l[i.toNat]? = some (a i) := by
  have := h.2 i.toNat (by have := h.1; omega)
  rw [Int.toNat_of_nonneg h0] at this
  exact this
theorem qRow_congr {α : Type} {a b : Int → α} {n : Int} {l : List α} (h : qRow a n l) (he : ∀ i, 0 ≤ i → i < n → b i = a i) : qRow b n l := by
  refine ⟨h.1, fun i hi => ?_⟩
  rw [h.2 i hi, he i (by omega) (by have := h.1; omega)]
theorem qRow_nn {α : Type} {a : Int → α} {n : Int} {l : List α} (h : qRow a n l) : 0 ≤ n := by have := h.1; omega
/-- two rows of one list hold the same -/
theorem qRow_same {α : Type} {a b : Int → α} {n m : Int} {l : List α} (h : qRow a n l) (h2 : qRow b m l) : n = m ∧ ∀ i, 0 ≤ i → i < n → a i = b i := by
  have e : n = m := by rw [h.1, h2.1]
  refine ⟨e, fun i h0 h1 => ?_⟩
  have q1 := qRow_at h h0 h1
  have q2 := qRow_at h2 h0 (by omega)
  rw [q1] at q2
  exact Option.some.inj q2
theorem qRow_take {α : Type} {a : Int → α} {n : Int} {l : List α} (h : qRow a n l) {i : Int} (h0 : 0 ≤ i) (h1 : i < n) : l.take (i.toNat + 1) = l.take i.toNat ++ [a i] := by
  rw [List.take_succ, qRow_at h h0 h1]
  rfl
theorem qRow_all {α : Type} {a : Int → α} {n : Int} {l : List α} (h : qRow a n l) : l.take n.toNat = l := by
  rw [h.1]
  exact List.take_of_length_le (by omega)
/-- the points of a list, as two rows hold them -/
def qPt (xs ys : Int → Int) (n : Int) (L : List (Int × Int)) : Prop := qRow (fun i => (xs i, ys i)) n L
theorem qPt_nil (xs ys : Int → Int) : qPt xs ys 0 [] := qRow_nil _
theorem qPt_put {xs ys : Int → Int} {n : Int} {L : List (Int × Int)} (h : qPt xs ys n L) (x y : Int) : qPt (zup xs n x) (zup ys n y) (n + 1) (L ++ [(x, y)]) := by
  have := qRow_put h (x, y)
  unfold qPt
  have e : (fun i => (zup xs n x i, zup ys n y i)) = zup (fun i => (xs i, ys i)) n (x, y) := by
    funext i
    unfold zup
    by_cases q : i = n
    · rw [if_pos q, if_pos q, if_pos q]
    · rw [if_neg q, if_neg q, if_neg q]
  rw [e]
  exact this
theorem pE_put {xs ys : Int → Int} {n x y : Int} (h : 0 ≤ n ∧ n < 2078) : f_X4_put xs ys n x y = some (zup xs n x, zup ys n y, n + 1) := by
  unfold f_X4_put
  simp (disch := omega) only [zck_t, if_pos, if_neg, zlt]
/-! numbers -/
theorem qMul_b {d j D J : Int} (h1 : -D ≤ d) (h2 : d ≤ D) (h3 : 0 ≤ j) (h4 : j ≤ J) : -(D * J) ≤ d * j ∧ d * j ≤ D * J := by
  have hD : 0 ≤ D := by omega
  have e1 := Int.mul_le_mul_of_nonneg_right h2 h3
  have e2 := Int.mul_le_mul_of_nonneg_left h4 hD
  have e3 := Int.mul_le_mul_of_nonneg_right h1 h3
  rw [Int.neg_mul] at e3
  constructor <;> omega
theorem qDiv_neg {a n : Int} (hn : 0 < n) : (n - 1 - a) / n = -(a / n) := by
  have h1 := Int.mul_ediv_add_emod a n
  have h2 := Int.emod_nonneg a (show n ≠ 0 by omega)
  have h3 := Int.emod_lt_of_pos a hn
  have e : n - 1 - a = (n - 1 - a % n) + n * (-(a / n)) := by
    rw [Int.mul_neg]
    omega
  rw [e, Int.add_mul_ediv_left _ _ (show n ≠ 0 by omega), Int.ediv_eq_zero_of_lt (by omega) (by omega)]
  omega
theorem pE_fdiv {a n : Int} (hn : 0 < n ∧ n ≤ 100000) (ha : -1000000 ≤ a ∧ a ≤ 1000000) : f_J9_floorDiv_7cf53 a n = some (a / n) := by
  unfold f_J9_floorDiv_7cf53
  rw [zck_t (by omega), Int.fdiv_eq_ediv_of_nonneg _ (by omega)]
theorem pE_fdivN {a n : Int} (hn : n < 0 ∧ -100000 ≤ n) (ha : -1000000 ≤ a ∧ a ≤ 1000000) : f_J9_floorDiv_7cf53 a n = some ((-a) / (-n)) := by
  unfold f_J9_floorDiv_7cf53
  rw [zck_t (by omega), ← Int.neg_fdiv_neg, Int.fdiv_eq_ediv_of_nonneg _ (by omega)]
theorem pE_fmod {a n : Int} (hn : 0 < n ∧ n ≤ 100000) (ha : -1000000 ≤ a ∧ a ≤ 1000000) : f_J9_floorMod_7cf53 a n = some (a % n) := by
  unfold f_J9_floorMod_7cf53
  rw [zck_t (by omega), Int.fmod_eq_emod_of_nonneg _ (by omega)]
/-- the place j of n on the way from a to b -/
def qPl (a b j n : Int) : Int := a + ((b - a) * j) / n
theorem pE_place {a b j n : Int} (hn : 0 < n ∧ n ≤ 1000) (hd : -100 ≤ b - a ∧ b - a ≤ 100) (hj : 0 ≤ j ∧ j ≤ 1000) : f_X6_placeOf a b j n = some (qPl a b j n) := by
  have hm := qMul_b (D := 100) (J := 1000) hd.1 hd.2 hj.1 hj.2
  unfold f_X6_placeOf
  rw [pE_fdiv (by omega) (by omega)]
  simp (disch := omega) only [zck_t, if_pos, zb1_e]
  rfl
/-- the greater one of two differences, without sign -/
abbrev qG (a b : Int) : Int := max (a.natAbs : Int) (b.natAbs : Int)
theorem pE_great {a b : Int} (ha : -1000000 ≤ a ∧ a ≤ 1000000) (hb : -1000000 ≤ b ∧ b ≤ 1000000) : f_X6_greaterDifference a b = some (qG a b) := by
  unfold f_X6_greaterDifference
  simp (disch := omega) only [zck_t]
theorem pE_up {g d : Int} (hg : 0 ≤ g ∧ g ≤ 1000000) (hd : 0 < d ∧ d ≤ 1000) : f_X6_roundedUp g d = some ((g + d - 1) / d) := by
  unfold f_X6_roundedUp
  simp (disch := omega) only [zck_t, if_pos]
  rw [Int.tdiv_eq_ediv_of_nonneg (by omega)]
