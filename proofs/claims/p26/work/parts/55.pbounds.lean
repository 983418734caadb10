/-! ===== how many points and long moves a field has, and where they are ===== -/
theorem qFM_pot {α : Type} {g : Int → List α} {lo : Int} (cost : List α → Int) (F : Int → Int) (n : Nat) : ∀ hi : Int, hi = lo + (n : Int) → (cost [] ≤ 0) → (∀ A j, lo ≤ j → j < hi → cost (A ++ g j) ≤ cost A + (F (j + 1) - F j)) → cost (qFM g lo hi) ≤ F hi - F lo := by
  induction n with
  | zero =>
    intro hi e h0 _
    rw [qFM_nil (by omega), show hi = lo by omega]
    omega
  | succ n ih =>
    intro hi e h0 hs
    have e2 : hi = (hi - 1) + 1 := by omega
    have h1 := ih (hi - 1) (by omega) h0 (fun A j j0 j1 => hs A j j0 (by omega))
    have h2 := hs (qFM g lo (hi - 1)) (hi - 1) (by omega) (by omega)
    rw [e2, qFM_succ (by omega)]
    omega
theorem qFM_cost {α : Type} {g : Int → List α} {lo hi : Int} (cost : List α → Int) (F : Int → Int) (h : lo ≤ hi) (h0 : cost [] ≤ 0) (hs : ∀ A j, lo ≤ j → j < hi → cost (A ++ g j) ≤ cost A + (F (j + 1) - F j)) : cost (qFM g lo hi) ≤ F hi - F lo :=
  qFM_pot cost F (hi - lo).toNat hi (by omega) h0 hs
theorem qFM_mem {α : Type} {g : Int → List α} {lo hi : Int} {x : α} : x ∈ qFM g lo hi ↔ ∃ i, lo ≤ i ∧ i < hi ∧ x ∈ g i := by
  unfold qFM
  rw [List.mem_flatMap]
  constructor
  · intro ⟨i, h1, h2⟩
    exact ⟨i, (qR_mem.mp h1).1, (qR_mem.mp h1).2, h2⟩
  · intro ⟨i, h1, h2, h3⟩
    exact ⟨i, qR_mem.mpr ⟨h1, h2⟩, h3⟩
/-- a move that is too long for one stitch -/
def qJmp (p q : Int × Int) : Int := if qG (q.1 - p.1) (q.2 - p.2) ≤ 12 then 0 else 1
def qJ : Int × Int → List (Int × Int) → Int
  | _, [] => 0
  | p, q :: L => qJmp p q + qJ q L
def qLast : Int × Int → List (Int × Int) → Int × Int
  | p, [] => p
  | _, q :: L => qLast q L
theorem qJmp_b {p q : Int × Int} : 0 ≤ qJmp p q ∧ qJmp p q ≤ 1 := by
  unfold qJmp
  split <;> omega
theorem qJ_app {p : Int × Int} {A B : List (Int × Int)} : qJ p (A ++ B) = qJ p A + qJ (qLast p A) B := by
  induction A generalizing p with
  | nil => show qJ p B = 0 + qJ p B; omega
  | cons q A ih =>
    show qJmp p q + qJ q (A ++ B) = qJmp p q + qJ q A + qJ (qLast q A) B
    rw [ih]
    omega
theorem qLast_app {p : Int × Int} {A B : List (Int × Int)} : qLast p (A ++ B) = qLast (qLast p A) B := by
  induction A generalizing p with
  | nil => rfl
  | cons q A ih => exact ih
theorem qJ_len {p : Int × Int} {A : List (Int × Int)} : 0 ≤ qJ p A ∧ qJ p A ≤ (A.length : Int) := by
  induction A generalizing p with
  | nil => exact ⟨Int.le_refl _, Int.le_refl _⟩
  | cons q A ih =>
    have := qJmp_b (p := p) (q := q)
    have := ih (p := q)
    show 0 ≤ qJmp p q + qJ q A ∧ qJmp p q + qJ q A ≤ ((A.length + 1 : Nat) : Int)
    omega
theorem qSpan_len {le o l r y bk : Int} (h : l ≤ r) : ((qSpan le o l r y bk).length : Int) ≤ r - l + 1 := by
  have := qFM_cost (g := qSg le o l r y bk) (lo := 0) (hi := r - l + 1) (fun A => (A.length : Int)) (fun i => i) (by omega) (Int.le_refl _) (fun A j _ _ => by
    show ((A ++ qSg le o l r y bk j).length : Int) ≤ (A.length : Int) + (j + 1 - j)
    have := qSg_len (le := le) (o := o) (l := l) (r := r) (y := y) (bk := bk) (t := j)
    rw [List.length_append]
    omega)
  have h2 : ((qSpan le o l r y bk).length : Int) ≤ r - l + 1 - 0 := this
  omega
theorem qSpan_J {le o l r y bk : Int} {p : Int × Int} (hbk : bk = 0 ∨ bk = 1) (h : l ≤ r) : 13 * qJ p (qSpan le o l r y bk) ≤ 13 + (r - l) := by
  have key : ∀ n : Nat, (n : Int) ≤ r - l → ∃ t : Int, 0 ≤ t ∧ t ≤ n ∧ qLast p (qFM (qSg le o l r y bk) 0 ((n : Int) + 1)) = (qSX l r bk t, y) ∧ 13 * qJ p (qFM (qSg le o l r y bk) 0 ((n : Int) + 1)) ≤ 13 + t := by
    intro n
    induction n with
    | zero =>
      intro _
      refine ⟨0, by omega, by omega, ?_, ?_⟩ <;> rw [qFM_succ (by omega), show ((0 : Nat) : Int) = 0 by rfl, qFM_nil (Int.le_refl _), List.nil_append] <;> unfold qSg <;> rw [if_pos (by rcases hbk with q | q <;> subst q <;> (first | (exact Or.inl (by rw [qSX_0]; omega)) | (exact Or.inr (Or.inl (by rw [qSX_1]; omega)))))]
      · rfl
      · have := qJmp_b (p := p) (q := (qSX l r bk 0, y))
        show 13 * (qJmp p (qSX l r bk 0, y) + 0) ≤ 13 + 0
        omega
    | succ n ih =>
      intro hn
      obtain ⟨t, t0, t1, e1, e2⟩ := ih (by omega)
      rw [show ((n + 1 : Nat) : Int) = (n : Int) + 1 by omega, qFM_succ (by omega), qLast_app, qJ_app, e1]
      by_cases hc : qSX l r bk ((n : Int) + 1) = l ∨ qSX l r bk ((n : Int) + 1) = r ∨ (qSX l r bk ((n : Int) + 1) - o) % le = 0
      · have e3 : qSg le o l r y bk ((n : Int) + 1) = [(qSX l r bk ((n : Int) + 1), y)] := by
          unfold qSg
          rw [if_pos hc]
        rw [e3]
        refine ⟨(n : Int) + 1, by omega, by omega, rfl, ?_⟩
        show 13 * (qJ p (qFM (qSg le o l r y bk) 0 ((n : Int) + 1)) + (qJmp (qSX l r bk t, y) (qSX l r bk ((n : Int) + 1), y) + 0)) ≤ 13 + ((n : Int) + 1)
        have hg : qG (qSX l r bk ((n : Int) + 1) - qSX l r bk t) (y - y) = (n : Int) + 1 - t := by
          rw [qG_e]
          rcases hbk with q | q <;> subst q
          · rw [qSX_0, qSX_0]; omega
          · rw [qSX_1, qSX_1]; omega
        unfold qJmp
        show 13 * (qJ p (qFM (qSg le o l r y bk) 0 ((n : Int) + 1)) + ((if qG (qSX l r bk ((n : Int) + 1) - qSX l r bk t) (y - y) ≤ 12 then 0 else 1) + 0)) ≤ 13 + ((n : Int) + 1)
        rw [hg]
        split <;> omega
      · have e3 : qSg le o l r y bk ((n : Int) + 1) = [] := by
          unfold qSg
          rw [if_neg hc]
        rw [e3]
        refine ⟨t, t0, by omega, rfl, ?_⟩
        show 13 * (qJ p (qFM (qSg le o l r y bk) 0 ((n : Int) + 1)) + 0) ≤ 13 + t
        omega
  obtain ⟨t, t0, t1, _, e⟩ := key (r - l).toNat (by omega)
  rw [show (((r - l).toNat : Nat) : Int) + 1 = r - l + 1 by omega] at e
  show 13 * qJ p (qFM (qSg le o l r y bk) 0 (r - l + 1)) ≤ 13 + (r - l)
  omega
/-- what all spans of a row cost together -/
def qPot (l : List Int) (k A i : Int) : Int := if k % 2 = 0 then (if i = 0 then qGet l 0 else qGet l (2 * i - 1)) + A * i else A * i - (if i = 0 then qGet l ((l.length : Int) - 1) else qGet l ((l.length : Int) - 2 * i))
theorem qPot_step {l : List Int} {k A i : Int} (hok : qOk l) (h0 : 0 ≤ i) (h1 : i < (l.length : Int) / 2) : qGet l (2 * qRS l k i + 1) - qGet l (2 * qRS l k i) + A ≤ qPot l k A (i + 1) - qPot l k A i := by
  have hev := hok.2.2.2
  have e : A * (i + 1) = A * i + A := by rw [Int.mul_add, Int.mul_one]
  unfold qPot qRS
  by_cases q : k % 2 = 0
  · rw [if_pos q, if_pos q, if_pos q, e, if_neg (by omega), show 2 * (i + 1) - 1 = 2 * i + 1 by omega]
    by_cases q2 : i = 0
    · rw [if_pos q2, q2, show (2 : Int) * 0 = 0 by omega]
      omega
    · rw [if_neg q2]
      have := qGet_le hok (i := 2 * i - 1) (j := 2 * i) (by omega) (by omega) (by omega)
      omega
  · rw [if_neg q, if_neg q, if_neg q, e, if_neg (by omega), show 2 * ((l.length : Int) / 2 - 1 - i) = (l.length : Int) - 2 * (i + 1) by omega]
    by_cases q2 : i = 0
    · rw [if_pos q2, show (l.length : Int) - 2 * (i + 1) + 1 = (l.length : Int) - 1 by omega]
      omega
    · rw [if_neg q2]
      have := qGet_le hok (i := (l.length : Int) - 2 * (i + 1) + 1) (j := (l.length : Int) - 2 * i) (by omega) (by omega) (by omega)
      omega
theorem qPot_all {l : List Int} {k A : Int} (hok : qOk l) (hA : 0 ≤ A) : qPot l k A ((l.length : Int) / 2) - qPot l k A 0 ≤ 31 + A * 4 := by
  have h8 := hok.2.2.1
  have hev := hok.2.2.2
  have e := Int.mul_le_mul_of_nonneg_left (show (l.length : Int) / 2 ≤ 4 by omega) hA
  unfold qPot
  by_cases q0 : (l.length : Int) / 2 = 0
  · rw [q0] at e ⊢
    omega
  · have g := qGet_le hok (i := 0) (j := (l.length : Int) - 1) (by omega) (by omega) (by omega)
    by_cases q : k % 2 = 0
    · rw [if_pos q, if_pos q, if_neg q0, if_pos rfl, show 2 * ((l.length : Int) / 2) - 1 = (l.length : Int) - 1 by omega, Int.mul_zero]
      omega
    · rw [if_neg q, if_neg q, if_neg q0, if_pos rfl, show (l.length : Int) - 2 * ((l.length : Int) / 2) = 0 by omega, Int.mul_zero]
      omega
theorem qRowP_len {l : List Int} {le sh pu y k : Int} (hok : qOk l) (hpu : 0 ≤ pu ∧ pu ≤ 3) : ((qRowP l le sh pu y k).length : Int) ≤ 59 := by
  have h := qFM_cost (g := qRowS l le sh pu y k) (lo := 0) (hi := (l.length : Int) / 2) (fun A => (A.length : Int)) (qPot l k 7) (by omega) (Int.le_refl _) (fun A j j0 j1 => by
    show ((A ++ qRowS l le sh pu y k j).length : Int) ≤ (A.length : Int) + _
    have hs := qRS_in (k := k) j0 j1
    have hb := qGet_le hok (i := 2 * qRS l k j) (j := 2 * qRS l k j + 1) (by omega) (by omega) hs.2
    have h1 := qSpan_len (le := le) (o := k * sh) (l := qGet l (2 * qRS l k j) - pu) (r := qGet l (2 * qRS l k j + 1) + pu) (y := y) (bk := k % 2) (by omega)
    have h2 := qPot_step (k := k) (A := 7) hok j0 j1
    rw [List.length_append, show (qRowS l le sh pu y k j) = qSpan le (k * sh) (qGet l (2 * qRS l k j) - pu) (qGet l (2 * qRS l k j + 1) + pu) y (k % 2) from rfl]
    omega)
  have h2 := qPot_all (k := k) (A := 7) hok (by omega)
  have h3 : ((qRowP l le sh pu y k).length : Int) ≤ qPot l k 7 ((l.length : Int) / 2) - qPot l k 7 0 := h
  omega
theorem qRowP_J {l : List Int} {le sh pu y k : Int} {p : Int × Int} (hok : qOk l) (hpu : 0 ≤ pu ∧ pu ≤ 3) : 13 * qJ p (qRowP l le sh pu y k) ≤ 107 := by
  have h := qFM_cost (g := qRowS l le sh pu y k) (lo := 0) (hi := (l.length : Int) / 2) (fun A => 13 * qJ p A) (qPot l k 19) (by omega) (by show 13 * qJ p [] ≤ 0; exact Int.le_refl _) (fun A j j0 j1 => by
    show 13 * qJ p (A ++ qRowS l le sh pu y k j) ≤ 13 * qJ p A + _
    have hs := qRS_in (k := k) j0 j1
    have hb := qGet_le hok (i := 2 * qRS l k j) (j := 2 * qRS l k j + 1) (by omega) (by omega) hs.2
    have h1 := qSpan_J (p := qLast p A) (le := le) (o := k * sh) (l := qGet l (2 * qRS l k j) - pu) (r := qGet l (2 * qRS l k j + 1) + pu) (y := y) (bk := k % 2) (by omega) (by omega)
    have h2 := qPot_step (k := k) (A := 19) hok j0 j1
    rw [qJ_app, show (qRowS l le sh pu y k j) = qSpan le (k * sh) (qGet l (2 * qRS l k j) - pu) (qGet l (2 * qRS l k j + 1) + pu) y (k % 2) from rfl]
    omega)
  have h2 := qPot_all (k := k) (A := 19) hok (by omega)
  have h3 : 13 * qJ p (qRowP l le sh pu y k) ≤ qPot l k 19 ((l.length : Int) / 2) - qPot l k 19 0 := h
  omega
theorem qRows_b {cx cy : Int → Int} {c de le sh pu : Int} (hc : 3 ≤ c ∧ c ≤ 8) (hb : qIn cx cy c) (hde : 1 ≤ de) (hpu : 0 ≤ pu ∧ pu ≤ 3) : ((qRows cx cy c de le sh pu).length : Int) ≤ 59 * 31 ∧ ∀ p, 13 * qJ p (qRows cx cy c de le sh pu) ≤ 107 * 31 := by
  have hnr := qNR_b hc.1 hb hde
  constructor
  · have h := qFM_cost (g := qRowK cx cy c de le sh pu) (lo := 0) (hi := qNR cy c de) (fun A => (A.length : Int)) (fun i => 59 * i) hnr.1 (Int.le_refl _) (fun A j _ _ => by
      show ((A ++ qRowK cx cy c de le sh pu j).length : Int) ≤ (A.length : Int) + (59 * (j + 1) - 59 * j)
      have := qRowP_len (le := le) (sh := sh) (y := qLo cy c + j * de) (k := j) (qCr_ok (y := qLo cy c + j * de) (by omega) hb) hpu
      rw [List.length_append, show qRowK cx cy c de le sh pu j = qRowP (qCr cx cy c (qLo cy c + j * de)) le sh pu (qLo cy c + j * de) j from rfl]
      omega)
    have h3 : ((qRows cx cy c de le sh pu).length : Int) ≤ 59 * qNR cy c de - 59 * 0 := h
    omega
  · intro p
    have h := qFM_cost (g := qRowK cx cy c de le sh pu) (lo := 0) (hi := qNR cy c de) (fun A => 13 * qJ p A) (fun i => 107 * i) hnr.1 (by show 13 * qJ p [] ≤ 0; exact Int.le_refl _) (fun A j _ _ => by
      show 13 * qJ p (A ++ qRowK cx cy c de le sh pu j) ≤ 13 * qJ p A + (107 * (j + 1) - 107 * j)
      have := qRowP_J (p := qLast p A) (le := le) (sh := sh) (y := qLo cy c + j * de) (k := j) (qCr_ok (y := qLo cy c + j * de) (by omega) hb) hpu
      rw [qJ_app, show qRowK cx cy c de le sh pu j = qRowP (qCr cx cy c (qLo cy c + j * de)) le sh pu (qLo cy c + j * de) j from rfl]
      omega)
    have h3 : 13 * qJ p (qRows cx cy c de le sh pu) ≤ 107 * qNR cy c de - 107 * 0 := h
    omega
theorem qPl_step {a b j n M : Int} (hn : 0 < n) (h : -(M * n) ≤ b - a ∧ b - a ≤ M * n) : -M ≤ qPl a b (j + 1) n - qPl a b j n ∧ qPl a b (j + 1) n - qPl a b j n ≤ M := by
  unfold qPl
  rw [Int.mul_add, Int.mul_one]
  generalize (b - a) * j = u
  have h1 := Int.mul_ediv_add_emod u n
  have h2 := Int.emod_nonneg u (show n ≠ 0 by omega)
  have h3 := Int.emod_lt_of_pos u hn
  have g1 : (u + (b - a)) / n ≤ u / n + M := by
    rw [Int.ediv_le_iff_le_mul hn, Int.add_mul, Int.mul_comm (u / n) n]
    omega
  have g2 : u / n - M ≤ (u + (b - a)) / n := by
    rw [Int.le_ediv_iff_mul_le hn, Int.sub_mul, Int.mul_comm (u / n) n]
    omega
  omega
theorem qPl_in {a b j n : Int} (hn : 0 < n) (h0 : 0 ≤ j) (h1 : j ≤ n) : min a b ≤ qPl a b j n ∧ qPl a b j n ≤ max a b := by
  have := qQ_b (d := b - a) h0 h1 hn
  unfold qPl
  rw [Int.mul_comm (b - a) j]
  omega
theorem qEdge_len {le x1 y1 x2 y2 : Int} (hle : 1 ≤ le ∧ le ≤ 12) (h1 : 0 ≤ x1 ∧ x1 ≤ 31) (h2 : 0 ≤ y1 ∧ y1 ≤ 31) (h3 : 0 ≤ x2 ∧ x2 ≤ 31) (h4 : 0 ≤ y2 ∧ y2 ≤ 31) : ((qEdge le x1 y1 x2 y2).length : Int) ≤ 31 := by
  have hb := qNE_b hle h1 h2 h3 h4
  have h := qFM_cost (g := qEdgeP le x1 y1 x2 y2) (lo := 1) (hi := qNE le x1 y1 x2 y2 + 1) (fun A => (A.length : Int)) (fun i => i) (by omega) (Int.le_refl _) (fun A j _ _ => by
    show ((A ++ qEdgeP le x1 y1 x2 y2 j).length : Int) ≤ (A.length : Int) + (j + 1 - j)
    rw [List.length_append, show (qEdgeP le x1 y1 x2 y2 j).length = 1 from rfl]
    omega)
  have h5 : ((qEdge le x1 y1 x2 y2).length : Int) ≤ qNE le x1 y1 x2 y2 + 1 - 1 := h
  omega
theorem qEdge_J {le x1 y1 x2 y2 : Int} {p : Int × Int} (hle : 1 ≤ le ∧ le ≤ 12) (h1 : 0 ≤ x1 ∧ x1 ≤ 31) (h2 : 0 ≤ y1 ∧ y1 ≤ 31) (h3 : 0 ≤ x2 ∧ x2 ≤ 31) (h4 : 0 ≤ y2 ∧ y2 ≤ 31) : qJ p (qEdge le x1 y1 x2 y2) ≤ 1 := by
  have hb := qNE_b hle h1 h2 h3 h4
  have hg := qG_e (x2 - x1) (y2 - y1)
  have hG : qG (x2 - x1) (y2 - y1) ≤ 12 * qNE le x1 y1 x2 y2 := by
    have e1 : (qG (x2 - x1) (y2 - y1) + le - 1) / le ≤ qNE le x1 y1 x2 y2 := Int.le_refl _
    rw [Int.ediv_le_iff_le_mul (by omega)] at e1
    have e2 := Int.mul_le_mul_of_nonneg_left hle.2 hb.1
    rw [Int.mul_comm 12]
    omega
  have key : ∀ n : Nat, (n : Int) + 1 ≤ qNE le x1 y1 x2 y2 → qLast p (qFM (qEdgeP le x1 y1 x2 y2) 1 ((n : Int) + 2)) = (qPl x1 x2 ((n : Int) + 1) (qNE le x1 y1 x2 y2), qPl y1 y2 ((n : Int) + 1) (qNE le x1 y1 x2 y2)) ∧ qJ p (qFM (qEdgeP le x1 y1 x2 y2) 1 ((n : Int) + 2)) ≤ 1 := by
    intro n
    induction n with
    | zero =>
      intro _
      rw [show ((0 : Nat) : Int) + 2 = 1 + 1 by rfl, show ((0 : Nat) : Int) + 1 = 1 by rfl, qFM_succ (Int.le_refl _), qFM_nil (Int.le_refl _), List.nil_append]
      refine ⟨rfl, ?_⟩
      have := qJmp_b (p := p) (q := (qPl x1 x2 1 (qNE le x1 y1 x2 y2), qPl y1 y2 1 (qNE le x1 y1 x2 y2)))
      show qJmp p (qPl x1 x2 1 (qNE le x1 y1 x2 y2), qPl y1 y2 1 (qNE le x1 y1 x2 y2)) + 0 ≤ 1
      omega
    | succ n ih =>
      intro hn
      obtain ⟨e1, e2⟩ := ih (by omega)
      rw [show ((n + 1 : Nat) : Int) + 2 = ((n : Int) + 2) + 1 by omega, show ((n + 1 : Nat) : Int) + 1 = (n : Int) + 2 by omega, qFM_succ (by omega), qLast_app, qJ_app, e1]
      refine ⟨rfl, ?_⟩
      have s1 := qPl_step (a := x1) (b := x2) (j := (n : Int) + 1) (n := qNE le x1 y1 x2 y2) (M := 12) (by omega) (by omega)
      have s2 := qPl_step (a := y1) (b := y2) (j := (n : Int) + 1) (n := qNE le x1 y1 x2 y2) (M := 12) (by omega) (by omega)
      rw [show (n : Int) + 1 + 1 = (n : Int) + 2 by omega] at s1 s2
      show qJ p (qFM (qEdgeP le x1 y1 x2 y2) 1 ((n : Int) + 2)) + (qJmp (qPl x1 x2 ((n : Int) + 1) (qNE le x1 y1 x2 y2), qPl y1 y2 ((n : Int) + 1) (qNE le x1 y1 x2 y2)) (qPl x1 x2 ((n : Int) + 2) (qNE le x1 y1 x2 y2), qPl y1 y2 ((n : Int) + 2) (qNE le x1 y1 x2 y2)) + 0) ≤ 1
      unfold qJmp
      have hg2 := qG_e (qPl x1 x2 ((n : Int) + 2) (qNE le x1 y1 x2 y2) - qPl x1 x2 ((n : Int) + 1) (qNE le x1 y1 x2 y2)) (qPl y1 y2 ((n : Int) + 2) (qNE le x1 y1 x2 y2) - qPl y1 y2 ((n : Int) + 1) (qNE le x1 y1 x2 y2))
      rw [if_pos (by
        show qG (qPl x1 x2 ((n : Int) + 2) (qNE le x1 y1 x2 y2) - qPl x1 x2 ((n : Int) + 1) (qNE le x1 y1 x2 y2)) (qPl y1 y2 ((n : Int) + 2) (qNE le x1 y1 x2 y2) - qPl y1 y2 ((n : Int) + 1) (qNE le x1 y1 x2 y2)) ≤ 12
        omega)]
      omega
  unfold qEdge
  by_cases q : qNE le x1 y1 x2 y2 = 0
  · rw [q, qFM_nil (by omega)]
    show (0 : Int) ≤ 1
    omega
  · have := (key (qNE le x1 y1 x2 y2 - 1).toNat (by omega)).2
    rw [show (((qNE le x1 y1 x2 y2 - 1).toNat : Nat) : Int) + 2 = qNE le x1 y1 x2 y2 + 1 by omega] at this
    exact this
theorem qUnd_b {cx cy : Int → Int} {c le : Int} (hc : 3 ≤ c ∧ c ≤ 8) (hb : qIn cx cy c) (hle : 1 ≤ le ∧ le ≤ 12) : ((qUnd cx cy c le).length : Int) ≤ 249 ∧ ∀ p, qJ p (qUnd cx cy c le) ≤ 9 := by
  unfold qUnd
  constructor
  · have h := qFM_cost (g := qUndI cx cy c le) (lo := 0) (hi := c) (fun A => (A.length : Int)) (fun i => 31 * i) (by omega) (Int.le_refl _) (fun A j j0 j1 => by
      show ((A ++ qUndI cx cy c le j).length : Int) ≤ (A.length : Int) + (31 * (j + 1) - 31 * j)
      have hx := qNx_in j0 j1
      have b1 := hb j j0 j1
      have b2 := hb (qNx c j) hx.1 hx.2
      have := qEdge_len hle b1.1 b1.2 b2.1 b2.2
      rw [List.length_append, show qUndI cx cy c le j = qEdge le (cx j) (cy j) (cx (qNx c j)) (cy (qNx c j)) from rfl]
      omega)
    have h3 : ((qFM (qUndI cx cy c le) 0 c).length : Int) ≤ 31 * c - 31 * 0 := h
    rw [List.length_append, List.length_singleton]
    omega
  · intro p
    have h := qFM_cost (g := qUndI cx cy c le) (lo := 0) (hi := c) (fun A => qJ (cx 0, cy 0) A) (fun i => i) (by omega) (by show qJ _ [] ≤ 0; exact Int.le_refl _) (fun A j j0 j1 => by
      show qJ _ (A ++ qUndI cx cy c le j) ≤ qJ _ A + (j + 1 - j)
      have hx := qNx_in j0 j1
      have b1 := hb j j0 j1
      have b2 := hb (qNx c j) hx.1 hx.2
      have := qEdge_J (p := qLast (cx 0, cy 0) A) hle b1.1 b1.2 b2.1 b2.2
      rw [qJ_app, show qUndI cx cy c le j = qEdge le (cx j) (cy j) (cx (qNx c j)) (cy (qNx c j)) from rfl]
      omega)
    have h3 : qJ (cx 0, cy 0) (qFM (qUndI cx cy c le) 0 c) ≤ c - 0 := h
    have := qJmp_b (p := p) (q := (cx 0, cy 0))
    show qJmp p (cx 0, cy 0) + qJ (cx 0, cy 0) (qFM (qUndI cx cy c le) 0 c) ≤ 9
    omega
theorem qCol_len {cx cy : Int → Int} {de : Int} (hb : qIn cx cy 4) (hde : 1 ≤ de ∧ de ≤ 8) : ((qCol cx cy de).length : Int) ≤ 66 := by
  have hnc := qNC_b hb hde
  have h := qFM_cost (g := qColJ cx cy de) (lo := 0) (hi := qNC cx cy de + 1) (fun A => (A.length : Int)) (fun i => 2 * i) (by omega) (Int.le_refl _) (fun A j _ _ => by
    show ((A ++ qColJ cx cy de j).length : Int) ≤ (A.length : Int) + (2 * (j + 1) - 2 * j)
    rw [List.length_append, show (qColJ cx cy de j).length = 2 from rfl]
    omega)
  have h5 : ((qCol cx cy de).length : Int) ≤ 2 * (qNC cx cy de + 1) - 2 * 0 := h
  omega
/-- a field's points are no more than there is room for, and few moves are long -/
theorem qPts_b {col c de le sh pu un : Int} {cx cy : Int → Int} (hF : qFd col c cx cy de le sh pu un) : (qPts col c cx cy de le sh pu un).length ≤ 2078 ∧ ∀ p, qJ p (qPts col c cx cy de le sh pu un) ≤ 264 := by
  obtain ⟨hcol, hc, hc4, hb, hde, hle, hsh, hpu, hun⟩ := hF
  have h00 : ∀ p, qJ p [] = 0 := fun p => rfl
  rcases hcol with q | q
  · subst q
    by_cases c3 : c < 3
    · rw [qPts_few c3]
      exact ⟨by decide, fun p => by rw [h00]; omega⟩
    · have hr := qRows_b (le := le) (sh := sh) ⟨by omega, hc.2⟩ hb hde.1 hpu
      rcases hun with q | q
      · subst q
        rw [qPts_rows c3]
        exact ⟨by have := hr.1; omega, fun p => by have := hr.2 p; omega⟩
      · subst q
        have hu := qUnd_b ⟨by omega, hc.2⟩ hb hle
        rw [qPts_und c3]
        refine ⟨by have := hr.1; have := hu.1; rw [List.length_append]; omega, fun p => ?_⟩
        have := hr.2 (qLast p (qUnd cx cy c le))
        have := hu.2 p
        rw [qJ_app]
        omega
  · subst q
    have h4 := hc4 rfl
    by_cases q4 : c = 4
    · subst q4
      rw [qPts_col]
      have := qCol_len hb hde
      refine ⟨by omega, fun p => ?_⟩
      have := qJ_len (p := p) (A := qCol cx cy de)
      omega
    · rw [qPts_noc q4]
      exact ⟨by decide, fun p => by rw [h00]; omega⟩
/-- where the points are -/
abbrev qBox (q : Int × Int) : Prop := (-3 ≤ q.1 ∧ q.1 ≤ 34) ∧ (0 ≤ q.2 ∧ q.2 ≤ 31)
theorem qPts_box {col c de le sh pu un : Int} {cx cy : Int → Int} (hF : qFd col c cx cy de le sh pu un) : ∀ q ∈ qPts col c cx cy de le sh pu un, qBox q := by
  obtain ⟨hcol, hc, hc4, hb, hde, hle, hsh, hpu, hun⟩ := hF
  have hrows : ¬ c < 3 → ∀ q ∈ qRows cx cy c de le sh pu, qBox q := by
    intro c3 q hq
    obtain ⟨k, k0, k1, hk⟩ := qFM_mem.mp hq
    obtain ⟨i, i0, i1, hi⟩ := qFM_mem.mp hk
    obtain ⟨t, t0, t1, ht⟩ := qFM_mem.mp hi
    have hok := qCr_ok (y := qLo cy c + k * de) (by omega) hb
    have hs := qRS_in (k := k) i0 i1
    have hg := qGet_le hok (i := 2 * qRS (qCr cx cy c (qLo cy c + k * de)) k i) (j := 2 * qRS (qCr cx cy c (qLo cy c + k * de)) k i + 1) (by omega) (by omega) hs.2
    have hy := (qNR_lt (k := k) hde.1).mp k1
    obtain ⟨h1, h2, h3⟩ := qLoHi' (by omega) hb
    have hy0 := Int.mul_nonneg k0 (show 0 ≤ de by omega)
    unfold qSg at ht
    split at ht
    · have e := List.mem_singleton.mp ht
      rw [e]
      have hx : qGet (qCr cx cy c (qLo cy c + k * de)) (2 * qRS (qCr cx cy c (qLo cy c + k * de)) k i) - pu ≤ qSX (qGet (qCr cx cy c (qLo cy c + k * de)) (2 * qRS (qCr cx cy c (qLo cy c + k * de)) k i) - pu) (qGet (qCr cx cy c (qLo cy c + k * de)) (2 * qRS (qCr cx cy c (qLo cy c + k * de)) k i + 1) + pu) (k % 2) t ∧ qSX (qGet (qCr cx cy c (qLo cy c + k * de)) (2 * qRS (qCr cx cy c (qLo cy c + k * de)) k i) - pu) (qGet (qCr cx cy c (qLo cy c + k * de)) (2 * qRS (qCr cx cy c (qLo cy c + k * de)) k i + 1) + pu) (k % 2) t ≤ qGet (qCr cx cy c (qLo cy c + k * de)) (2 * qRS (qCr cx cy c (qLo cy c + k * de)) k i + 1) + pu := by
        by_cases z : k % 2 = 0
        · rw [z, qSX_0]
          omega
        · rw [show k % 2 = 1 by omega, qSX_1]
          omega
      constructor
      · show -3 ≤ qSX _ _ _ _ ∧ qSX _ _ _ _ ≤ 34
        omega
      · show 0 ≤ qLo cy c + k * de ∧ qLo cy c + k * de ≤ 31
        omega
    · cases ht
  have hcor : ∀ i, 0 ≤ i → i < c → qBox (cx i, cy i) := fun i i0 i1 => by
    have := hb i i0 i1
    show (-3 ≤ cx i ∧ cx i ≤ 34) ∧ (0 ≤ cy i ∧ cy i ≤ 31)
    omega
  have hpl : ∀ x1 y1 x2 y2 j n : Int, 0 < n → 0 ≤ j → j ≤ n → (0 ≤ x1 ∧ x1 ≤ 31) → (0 ≤ y1 ∧ y1 ≤ 31) → (0 ≤ x2 ∧ x2 ≤ 31) → (0 ≤ y2 ∧ y2 ≤ 31) → qBox (qPl x1 x2 j n, qPl y1 y2 j n) := fun x1 y1 x2 y2 j n hn j0 j1 a1 a2 a3 a4 => by
    have e1 := qPl_in (a := x1) (b := x2) hn j0 j1
    have e2 := qPl_in (a := y1) (b := y2) hn j0 j1
    show (-3 ≤ qPl x1 x2 j n ∧ qPl x1 x2 j n ≤ 34) ∧ (0 ≤ qPl y1 y2 j n ∧ qPl y1 y2 j n ≤ 31)
    omega
  rcases hcol with q | q
  · subst q
    by_cases c3 : c < 3
    · rw [qPts_few c3]
      intro q hq
      cases hq
    · rcases hun with q | q
      · subst q
        rw [qPts_rows c3]
        exact hrows c3
      · subst q
        rw [qPts_und c3]
        intro q hq
        rcases List.mem_append.mp hq with h | h
        · unfold qUnd at h
          rcases List.mem_append.mp h with h | h
          · rw [List.mem_singleton.mp h]
            exact hcor 0 (by omega) (by omega)
          · obtain ⟨i, i0, i1, hi⟩ := qFM_mem.mp h
            obtain ⟨j, j0, j1, hj⟩ := qFM_mem.mp hi
            have hx := qNx_in i0 i1
            have b1 := hb i i0 i1
            have b2 := hb (qNx c i) hx.1 hx.2
            rw [List.mem_singleton.mp hj]
            exact hpl _ _ _ _ _ _ (by omega) (by omega) (by omega) b1.1 b1.2 b2.1 b2.2
        · exact hrows c3 q h
  · subst q
    have h4 := hc4 rfl
    by_cases q4 : c = 4
    · subst q4
      rw [qPts_col]
      intro q hq
      obtain ⟨j, j0, j1, hj⟩ := qFM_mem.mp hq
      have b0 := hb 0 (by omega) (by omega)
      have b1 := hb 1 (by omega) (by omega)
      have b2 := hb 2 (by omega) (by omega)
      have b3 := hb 3 (by omega) (by omega)
      have hnc := qNC_b hb hde
      rcases List.mem_cons.mp hj with h | h
      · rw [h]
        exact hpl _ _ _ _ _ _ (by omega) (by omega) (by omega) b0.1 b0.2 b1.1 b1.2
      · rw [List.mem_singleton.mp h]
        exact hpl _ _ _ _ _ _ (by omega) (by omega) (by omega) b3.1 b3.2 b2.1 b2.2
    · rw [qPts_noc q4]
      intro q hq
      cases hq
