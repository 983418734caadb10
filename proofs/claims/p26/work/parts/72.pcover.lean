/-! ===== how much is covered ===== -/
def qAny (p : Int → Bool) (lo hi : Int) : Bool := (qR lo hi).any p
theorem qAny_nil {p : Int → Bool} {lo hi : Int} (h : hi ≤ lo) : qAny p lo hi = false := by
  unfold qAny
  rw [qR_nil h]
  rfl
theorem qAny_s {p : Int → Bool} {lo hi : Int} (h : lo ≤ hi) : qAny p lo (hi + 1) = (qAny p lo hi || p hi) := by
  unfold qAny
  rw [qR_succ h, List.any_append]
  simp
theorem qAny_iff {p : Int → Bool} {lo hi : Int} : qAny p lo hi = true ↔ ∃ i, lo ≤ i ∧ i < hi ∧ p i = true := by
  unfold qAny
  rw [List.any_eq_true]
  constructor
  · intro ⟨i, h1, h2⟩
    exact ⟨i, (qR_mem.mp h1).1, (qR_mem.mp h1).2, h2⟩
  · intro ⟨i, h1, h2, h3⟩
    exact ⟨i, qR_mem.mpr ⟨h1, h2⟩, h3⟩
def qB (b : Bool) : Int := if b = true then 1 else 0
theorem qB_01 {b : Bool} : qB b = 0 ∨ qB b = 1 := by unfold qB; split <;> omega
theorem qB_t : qB true = 1 := rfl
theorem qB_f : qB false = 0 := rfl
def qSp (l : List Int) (x i : Int) : Bool := decide (qGet l (2 * i) ≤ x ∧ x ≤ qGet l (2 * i + 1))
def qSpB (l : List Int) (x : Int) : Bool := qAny (qSp l x) 0 ((l.length : Int) / 2)
theorem pE_spansB {cr : Int → Int} {n x : Int} {l : List Int} (hr : qRow cr n l) (hok : qOk l) (hx : 0 ≤ x ∧ x ≤ 31) : f_X0_spans cr n x = some (qB (qSpB l x)) := by
  have h8 := hok.2.2.1
  have hev := hok.2.2.2
  have hnl := hr.1
  have H : ∃ r, zlp (fun z => f_X0_spans_L2 cr n x z) zFU 0 = some r ∧ ((∃ v, r = .inl v ∧ qSpB l x = false) ∨ (r = .inr 1 ∧ qSpB l x = true)) := by
    refine zlp_for2 (fun s : Int => s / 2) (lo := 0) (hi := (l.length : Int) / 2) (fun j s => s = 2 * j ∧ qAny (qSp l x) 0 j = false) _ (by omega) (by omega) ?_ ?_ 0 rfl ⟨rfl, qAny_nil (Int.le_refl _)⟩
    · intro s h0 h1 hR
      replace h0 : 0 ≤ s / 2 := h0
      replace h1 : s / 2 < (l.length : Int) / 2 := h1
      obtain ⟨hs, hR⟩ := hR
      replace hs : s = 2 * (s / 2) := hs
      replace hR : qAny (qSp l x) 0 (s / 2) = false := hR
      show (∃ s', f_X0_spans_L2 cr n x s = some (.inl s') ∧ s' / 2 = s / 2 + 1 ∧ (s' = 2 * (s / 2 + 1) ∧ qAny (qSp l x) 0 (s / 2 + 1) = false)) ∨ ∃ r, f_X0_spans_L2 cr n x s = some (.inr r) ∧ _
      generalize hj : s / 2 = j at *
      subst hs
      have e1 := qGet_row hr (i := 2 * j) (by omega) (by omega)
      have e2 := qGet_row hr (i := 2 * j + 1) (by omega) (by omega)
      have hb := qGet_le hok (i := 2 * j) (j := 2 * j + 1) (by omega) (by omega) (by omega)
      unfold f_X0_spans_L2
      rw [e1, e2]
      by_cases z : qGet l (2 * j) ≤ x ∧ x ≤ qGet l (2 * j + 1)
      · right
        refine ⟨.inr 1, ?_, Or.inr ⟨rfl, qAny_iff.mpr ⟨j, h0, h1, decide_eq_true z⟩⟩⟩
        simp (disch := omega) only [zck_t, if_neg]
      · left
        have hp : qSp l x j = false := decide_eq_false z
        refine ⟨2 * j + 2, ?_, by omega, by omega, by rw [qAny_s h0, hR, hp]; rfl⟩
        by_cases z1 : x < qGet l (2 * j)
        · simp (disch := omega) only [zck_t, if_neg, if_pos]
        · simp (disch := omega) only [zck_t, if_neg, if_pos]
    · intro s h0 hR
      replace h0 : s / 2 = (l.length : Int) / 2 := h0
      obtain ⟨hs, hR⟩ := hR
      refine ⟨.inl s, ?_, Or.inl ⟨s, rfl, hR⟩⟩
      show f_X0_spans_L2 cr n x s = _
      unfold f_X0_spans_L2
      simp (disch := omega) only [zck_t, if_pos]
  obtain ⟨r, e, hr2⟩ := H
  unfold f_X0_spans
  rw [e]
  rcases hr2 with ⟨v, q1, q2⟩ | ⟨q1, q2⟩
  · rw [q1, q2]; rfl
  · rw [q1, q2]; rfl
def qNr (a : Int → Int) (x r : Int) : Bool := decide (¬ a (32 * r + x) = 0)
def qNrB (a : Int → Int) (x y de : Int) : Bool := qAny (qNr a x) (max 0 (y - de + 1)) (min 31 (y + de - 1) + 1)
def qNr2 (a : Int → Int) (x v : Int) : Bool := decide ((0 ≤ v ∧ v ≤ 31) ∧ ¬ a (32 * v + x) = 0)
theorem qNr_eq {a : Int → Int} {x y de : Int} : qAny (qNr2 a x) (y - de + 1) (y + de) = qNrB a x y de := by
  apply Bool.eq_iff_iff.mpr
  unfold qNrB
  rw [qAny_iff, qAny_iff]
  constructor
  · intro ⟨i, h1, h2, h3⟩
    have := of_decide_eq_true h3
    exact ⟨i, by omega, by omega, decide_eq_true this.2⟩
  · intro ⟨i, h1, h2, h3⟩
    have := of_decide_eq_true h3
    exact ⟨i, by omega, by omega, decide_eq_true ⟨by omega, this⟩⟩
theorem pE_near {a : Int → Int} {x y de : Int} (h01 : ∀ v, 0 ≤ v → v < 1024 → a v = 0 ∨ a v = 1) (hx : 0 ≤ x ∧ x ≤ 31) (hy : 0 ≤ y ∧ y ≤ 31) (hde : 1 ≤ de ∧ de ≤ 8) : f_X5_isNear a x y de = some (qB (qNrB a x y de)) := by
  have H : ∃ r, zlp (fun z => f_X5_isNear_L27 a x (min 31 (y + de - 1)) z) zFU (max 0 (y - de + 1)) = some r ∧ ((∃ v, r = .inl v ∧ qNrB a x y de = false) ∨ (r = .inr 1 ∧ qNrB a x y de = true)) := by
    refine zlp_for2 (fun s : Int => s) (lo := max 0 (y - de + 1)) (hi := min 31 (y + de - 1) + 1) (fun j _ => qAny (qNr a x) (max 0 (y - de + 1)) j = false) _ (by omega) (by omega) ?_ ?_ _ rfl (qAny_nil (Int.le_refl _))
    · intro s h0 h1 hR
      replace hR : qAny (qNr a x) (max 0 (y - de + 1)) s = false := hR
      have hv := h01 (32 * s + x) (by omega) (by omega)
      show (∃ s', f_X5_isNear_L27 a x (min 31 (y + de - 1)) s = some (.inl s') ∧ s' = s + 1 ∧ qAny (qNr a x) (max 0 (y - de + 1)) (s + 1) = false) ∨ ∃ r, f_X5_isNear_L27 a x (min 31 (y + de - 1)) s = some (.inr r) ∧ _
      unfold f_X5_isNear_L27
      rw [show s * 32 + x = 32 * s + x by omega]
      by_cases z : a (32 * s + x) = 0
      · left
        have hp : qNr a x s = false := decide_eq_false (fun w => w z)
        refine ⟨s + 1, ?_, rfl, by rw [qAny_s h0, hR, hp]; rfl⟩
        simp (disch := omega) only [zck_t, if_neg, if_pos, zlt]
      · right
        refine ⟨.inr 1, ?_, Or.inr ⟨rfl, qAny_iff.mpr ⟨s, h0, h1, decide_eq_true z⟩⟩⟩
        simp (disch := omega) only [zck_t, if_neg, zlt]
    · intro s h0 hR
      replace h0 : s = min 31 (y + de - 1) + 1 := h0
      refine ⟨.inl s, ?_, Or.inl ⟨s, rfl, hR⟩⟩
      show f_X5_isNear_L27 a x (min 31 (y + de - 1)) s = _
      unfold f_X5_isNear_L27
      simp (disch := omega) only [zck_t, if_pos]
  obtain ⟨r, e, hr2⟩ := H
  unfold f_X5_isNear
  simp (disch := omega) only [zck_t, zlt]
  rw [e]
  rcases hr2 with ⟨v, q1, q2⟩ | ⟨q1, q2⟩
  · rw [q1, q2]; rfl
  · rw [q1, q2]; rfl
/-- sums over rows -/
def qSm (F : Int → Int) (lo hi : Int) : Int := (qR lo hi).foldl (fun s v => s + F v) 0
theorem qSm_nil {F : Int → Int} {lo hi : Int} (h : hi ≤ lo) : qSm F lo hi = 0 := by
  unfold qSm
  rw [qR_nil h]
  rfl
theorem qSm_s {F : Int → Int} {lo hi : Int} (h : lo ≤ hi) : qSm F lo (hi + 1) = qSm F lo hi + F hi := by
  unfold qSm
  rw [qR_succ h, List.foldl_append]
  rfl
theorem qSm_low {F : Int → Int} {lo : Int} (hl : 0 ≤ lo) (hz : ∀ y, 0 ≤ y → y < lo → F y = 0) : qSm F 0 lo = 0 := by
  have key : ∀ n : Nat, (n : Int) ≤ lo → qSm F 0 n = 0 := by
    intro n
    induction n with
    | zero => intro _; exact qSm_nil (Int.le_refl _)
    | succ n ih =>
      intro hn
      rw [show ((n + 1 : Nat) : Int) = (n : Int) + 1 by omega, qSm_s (by omega), ih (by omega), hz n (by omega) (by omega)]
      rfl
  have := key lo.toNat (by omega)
  rw [show ((lo.toNat : Nat) : Int) = lo by omega] at this
  exact this
theorem qSm_part {F : Int → Int} {lo : Int} (hl : 0 ≤ lo) (hz : ∀ y, 0 ≤ y → y < lo → F y = 0) (n : Nat) : qSm F 0 (lo + n) = qSm F lo (lo + n) := by
  induction n with
  | zero => rw [show lo + ((0 : Nat) : Int) = lo by omega, qSm_low hl hz, qSm_nil (Int.le_refl _)]
  | succ n ih => rw [show lo + ((n + 1 : Nat) : Int) = (lo + n) + 1 by omega, qSm_s (by omega), qSm_s (by omega), ih]
theorem qSm_high {F : Int → Int} {hi : Int} (h0 : 0 ≤ hi) (n : Nat) : (∀ y, hi ≤ y → y < hi + n → F y = 0) → qSm F 0 (hi + n) = qSm F 0 hi := by
  induction n with
  | zero => intro _; rw [show hi + ((0 : Nat) : Int) = hi by omega]
  | succ n ih =>
    intro hz
    rw [show hi + ((n + 1 : Nat) : Int) = (hi + n) + 1 by omega, qSm_s (by omega), ih (fun y a b => hz y a (by omega)), hz (hi + n) (by omega) (by omega)]
    omega
theorem qSm_all {F : Int → Int} {lo hi : Int} (h0 : 0 ≤ lo) (h1 : lo ≤ hi) (h2 : hi ≤ 32) (hz1 : ∀ y, 0 ≤ y → y < lo → F y = 0) (hz2 : ∀ y, hi ≤ y → y < 32 → F y = 0) : qSm F 0 32 = qSm F lo hi := by
  have e1 := qSm_high (F := F) (hi := hi) (by omega) (32 - hi).toNat (fun y a b => hz2 y a (by omega))
  rw [show hi + ((32 - hi).toNat : Int) = 32 by omega] at e1
  have e2 := qSm_part h0 hz1 (hi - lo).toNat
  rw [show lo + ((hi - lo).toNat : Int) = hi by omega] at e2
  rw [e1, e2]
theorem qSm_b {F : Int → Int} {lo M : Int} (n : Nat) : (∀ y, lo ≤ y → y < lo + n → 0 ≤ F y ∧ F y ≤ M) → 0 ≤ qSm F lo (lo + n) ∧ qSm F lo (lo + n) ≤ M * n := by
  induction n with
  | zero => intro _; rw [qSm_nil (by omega)]; exact ⟨by omega, by rw [show M * ((0 : Nat) : Int) = 0 by simp]; omega⟩
  | succ n ih =>
    intro h
    have h1 := ih (fun y a b => h y a (by omega))
    have h2 := h (lo + n) (by omega) (by omega)
    rw [show lo + ((n + 1 : Nat) : Int) = (lo + n) + 1 by omega, qSm_s (by omega), show ((n + 1 : Nat) : Int) = (n : Int) + 1 by omega, Int.mul_add, Int.mul_one]
    omega
def qRA (l : List Int) (x : Int) : Int := qB (qSpB l x)
def qRB (l : List Int) (a : Int → Int) (y de x : Int) : Int := qB (qSpB l x && qNrB a x y de)
def qFA (cx cy : Int → Int) (c y : Int) : Int := qCt (qRA (qCr cx cy c y)) 32
def qFB (cx cy : Int → Int) (c de : Int) (a : Int → Int) (y : Int) : Int := qCt (qRB (qCr cx cy c y) a y de) 32
theorem qRA_b {l : List Int} {n : Nat} : 0 ≤ qCt (qRA l) n ∧ qCt (qRA l) n ≤ n := by
  have := qCt_b (a := qRA l) n (fun v _ _ => qB_01)
  exact ⟨this.1, this.2.1⟩
theorem qRB_b {l : List Int} {a : Int → Int} {y de : Int} {n : Nat} : 0 ≤ qCt (qRB l a y de) n ∧ qCt (qRB l a y de) n ≤ n := by
  have := qCt_b (a := qRB l a y de) n (fun v _ _ => qB_01)
  exact ⟨this.1, this.2.1⟩
theorem qSpB_nil {x : Int} : qSpB [] x = false := qAny_nil (by decide)
theorem qCt_zero {a : Int → Int} (h : ∀ v, 0 ≤ v → v < 32 → a v = 0) : qCt a 32 = 0 := by
  have e := qCt_congr (a := a) (b := fun _ => 0) 32 (fun v h0 h1 => h v h0 h1)
  have e2 : ∀ n : Nat, qCt (fun _ => 0) (n : Int) = 0 := by
    intro n
    induction n with
    | zero => exact qCt_0
    | succ n ih => rw [show ((n + 1 : Nat) : Int) = (n : Int) + 1 by omega, qCt_s (by omega), ih]; rfl
  rw [show ((32 : Nat) : Int) = 32 by rfl] at e
  rw [e]
  exact e2 32
theorem qF_none {cx cy : Int → Int} {c de y : Int} {a : Int → Int} (hc : 0 ≤ c) (h : (∀ i, 0 ≤ i → i < c → y < cy i) ∨ (∀ i, 0 ≤ i → i < c → cy i ≤ y)) : qFA cx cy c y = 0 ∧ qFB cx cy c de a y = 0 := by
  have e := qCr_none (cx := cx) h c.toNat (by omega)
  rw [show ((c.toNat : Nat) : Int) = c by omega] at e
  have e : qCr cx cy c y = [] := e
  unfold qFA qFB
  rw [e]
  constructor
  · exact qCt_zero (fun v _ _ => by unfold qRA; rw [qSpB_nil]; rfl)
  · exact qCt_zero (fun v _ _ => by unfold qRB; rw [qSpB_nil]; rfl)
theorem qNrB_0 {a : Int → Int} {x y de : Int} (h : ∀ v, 0 ≤ v → v < 1024 → a v = 0) (hx : 0 ≤ x ∧ x ≤ 31) : qNrB a x y de = false := by
  cases hq : qNrB a x y de with
  | false => rfl
  | true =>
    obtain ⟨i, h1, h2, h3⟩ := qAny_iff.mp hq
    have := of_decide_eq_true h3
    exact absurd (h (32 * i + x) (by omega) (by omega)) this
theorem qFB_0 {cx cy : Int → Int} {c de y : Int} {a : Int → Int} (h : ∀ v, 0 ≤ v → v < 1024 → a v = 0) : qFB cx cy c de a y = 0 := by
  unfold qFB
  refine qCt_zero (fun v h0 h1 => ?_)
  unfold qRB
  rw [qNrB_0 h (by omega), Bool.and_false]
  rfl
/-- the part -/
def qV (all are : Int) : UInt32 := if all = 0 then 0 else FP.fdiv (FP.i2f (zI are)) (FP.i2f (zI all))
theorem qV_p {all are : Int} (h1 : 0 ≤ all ∧ all ≤ 1024) (h2 : 0 ≤ are ∧ are ≤ 1024) : qFp (qV all are) := by
  unfold qV
  split
  · exact qFp_0
  · exact (qFp_div h2 (by omega)).1
theorem qV_0 {all : Int} (h1 : 0 ≤ all ∧ all ≤ 1024) : qV all 0 = 0 := by
  unfold qV
  split
  · rfl
  · exact (qFp_div (a := 0) (by omega) (by omega)).2 rfl
theorem pE_part {cx cy cr a : Int → Int} {c n de : Int} (hc : 0 ≤ c ∧ c ≤ 8) (hb : qIn cx cy c) (hde : 1 ≤ de ∧ de ≤ 8) (h01 : ∀ v, 0 ≤ v → v < 1024 → a v = 0 ∨ a v = 1) :
    ∃ cr' n', f_X5_partCovered cx cy cr c n de a = some (qV (qSm (qFA cx cy c) 0 32) (qSm (qFB cx cy c de a) 0 32), cr', n') ∧ (0 ≤ qSm (qFA cx cy c) 0 32 ∧ qSm (qFA cx cy c) 0 32 ≤ 1024) ∧ (0 ≤ qSm (qFB cx cy c de a) 0 32 ∧ qSm (qFB cx cy c de a) 0 32 ≤ 1024) := by
  obtain ⟨l1, l2, l3⟩ := qLoHi' hc.1 hb
  have bA := qSm_b (F := qFA cx cy c) (lo := 0) (M := 32) 32 (fun y _ _ => qRA_b (n := 32))
  have bB := qSm_b (F := qFB cx cy c de a) (lo := 0) (M := 32) 32 (fun y _ _ => qRB_b (n := 32))
  rw [show (0 : Int) + ((32 : Nat) : Int) = 32 by rfl] at bA bB
  have hlow : ∀ y, 0 ≤ y → y < qLo cy c → qFA cx cy c y = 0 ∧ qFB cx cy c de a y = 0 := fun y _ h1 => qF_none hc.1 (Or.inl (fun i i0 i1 => by have := (l3 i i0 i1).1; omega))
  have hhigh : ∀ y, max (qLo cy c) (min (qHi cy c) 32) ≤ y → y < 32 → qFA cx cy c y = 0 ∧ qFB cx cy c de a y = 0 := fun y h1 _ => qF_none hc.1 (Or.inr (fun i i0 i1 => by have := (l3 i i0 i1).2; omega))
  have eA := qSm_all (F := qFA cx cy c) (lo := qLo cy c) (hi := max (qLo cy c) (min (qHi cy c) 32)) (by omega) (by omega) (by omega) (fun y a b => (hlow y a b).1) (fun y a b => (hhigh y a b).1)
  have eB := qSm_all (F := qFB cx cy c de a) (lo := qLo cy c) (hi := max (qLo cy c) (min (qHi cy c) 32)) (by omega) (by omega) (by omega) (fun y a b => (hlow y a b).2) (fun y a b => (hhigh y a b).2)
  have H : ∃ q, zlp (fun z => f_X5_partCovered_L21 cx cy c de a (min (qHi cy c) 32) z.1 z.2.1 z.2.2.1 z.2.2.2.1 z.2.2.2.2) zFU (0, 0, qLo cy c, cr, n) = some q ∧ (q.1 = qSm (qFA cx cy c) 0 32 ∧ q.2.1 = qSm (qFB cx cy c de a) 0 32) := by
    refine zlp_for (fun s : Int × Int × Int × (Int → Int) × Int => s.2.2.1) (lo := qLo cy c) (hi := max (qLo cy c) (min (qHi cy c) 32)) (fun y s => s.1 = qSm (qFA cx cy c) (qLo cy c) y ∧ s.2.1 = qSm (qFB cx cy c de a) (qLo cy c) y) _ (by omega) (by omega) ?_ ?_ (0, 0, qLo cy c, cr, n) rfl ⟨(qSm_nil (Int.le_refl _)).symm, (qSm_nil (Int.le_refl _)).symm⟩
    · intro s h0 h1 hR
      obtain ⟨al, ar, y, cr, n⟩ := s
      replace h0 : qLo cy c ≤ y := h0
      replace h1 : y < max (qLo cy c) (min (qHi cy c) 32) := h1
      obtain ⟨r1, r2⟩ := hR
      replace r1 : al = qSm (qFA cx cy c) (qLo cy c) y := r1
      replace r2 : ar = qSm (qFB cx cy c de a) (qLo cy c) y := r2
      obtain ⟨cr2, n2, ec, hr⟩ := pE_cross (cr := cr) (cc := n) (y := y) hc hb (by omega)
      have hok := qCr_ok (y := y) hc hb
      have H2 : ∃ q, zlp (fun z => f_X5_partCovered_L37 cx cy cr2 c n2 de a (min (qHi cy c) 32) y z.1 z.2.1 z.2.2) zFU (al, ar, 0) = some q ∧ (q.1 = al + qFA cx cy c y ∧ q.2.1 = ar + qFB cx cy c de a y) := by
        refine zlp_for (fun s : Int × Int × Int => s.2.2) (lo := 0) (hi := 32) (fun x s => s.1 = al + qCt (qRA (qCr cx cy c y)) x ∧ s.2.1 = ar + qCt (qRB (qCr cx cy c y) a y de) x) _ (by omega) (by omega) ?_ ?_ (al, ar, 0) rfl ⟨by rw [qCt_0]; show al = al + 0; omega, by rw [qCt_0]; show ar = ar + 0; omega⟩
        · intro s x0 x1 hR
          obtain ⟨al', ar', x⟩ := s
          replace x0 : 0 ≤ x := x0
          replace x1 : x < 32 := x1
          obtain ⟨q1, q2⟩ := hR
          replace q1 : al' = al + qCt (qRA (qCr cx cy c y)) x := q1
          replace q2 : ar' = ar + qCt (qRB (qCr cx cy c y) a y de) x := q2
          have es := pE_spansB hr hok (x := x) (by omega)
          have en := pE_near (x := x) (y := y) (de := de) h01 (by omega) (by omega) hde
          refine ⟨(al' + qRA (qCr cx cy c y) x, ar' + qRB (qCr cx cy c y) a y de x, x + 1), ?_, rfl, ?_, ?_⟩
          · show f_X5_partCovered_L37 cx cy cr2 c n2 de a (min (qHi cy c) 32) y al' ar' x = _
            unfold f_X5_partCovered_L37 qRA qRB
            rw [es, en]
            cases hq : qSpB (qCr cx cy c y) x with
            | false =>
              rw [Bool.false_and, qB_f]
              simp (disch := omega) only [zck_t, if_neg, zb1_e, if_true]
              rw [Int.add_zero, Int.add_zero]
            | true =>
              rw [Bool.true_and, qB_t]
              cases hq2 : qNrB a x y de with
              | false =>
                rw [qB_f]
                simp (disch := omega) only [zck_t, if_neg, zb1_e, if_true, zlt]
              | true =>
                rw [qB_t]
                simp (disch := omega) only [zck_t, if_neg, zb1_e, zlt]
          · show al' + qRA (qCr cx cy c y) x = al + qCt (qRA (qCr cx cy c y)) (x + 1)
            rw [qCt_s x0]
            omega
          · show ar' + qRB (qCr cx cy c y) a y de x = ar + qCt (qRB (qCr cx cy c y) a y de) (x + 1)
            rw [qCt_s x0]
            omega
        · intro s x0 hR
          obtain ⟨al', ar', x⟩ := s
          replace x0 : x = 32 := x0
          refine ⟨(al', ar', x), ?_, hR⟩
          show f_X5_partCovered_L37 cx cy cr2 c n2 de a (min (qHi cy c) 32) y al' ar' x = _
          unfold f_X5_partCovered_L37
          simp (disch := omega) only [zck_t, if_pos]
      obtain ⟨⟨al', ar', x⟩, e2, g1, g2⟩ := H2
      replace g1 : al' = al + qFA cx cy c y := g1
      replace g2 : ar' = ar + qFB cx cy c de a y := g2
      refine ⟨(al', ar', y + 1, cr2, n2), ?_, rfl, ?_, ?_⟩
      · show f_X5_partCovered_L21 cx cy c de a (min (qHi cy c) 32) al ar y cr n = _
        unfold f_X5_partCovered_L21
        simp (disch := omega) only [zck_t, if_neg, ec, zb2_e]
        rw [e2]
        rfl
      · show al' = qSm (qFA cx cy c) (qLo cy c) (y + 1)
        rw [qSm_s h0, g1, r1]
      · show ar' = qSm (qFB cx cy c de a) (qLo cy c) (y + 1)
        rw [qSm_s h0, g2, r2]
    · intro s h0 hR
      obtain ⟨al, ar, y, cr, n⟩ := s
      replace h0 : y = max (qLo cy c) (min (qHi cy c) 32) := h0
      rw [← eA, ← eB] at hR
      refine ⟨(al, ar, y, cr, n), ?_, hR⟩
      show f_X5_partCovered_L21 cx cy c de a (min (qHi cy c) 32) al ar y cr n = _
      unfold f_X5_partCovered_L21
      simp (disch := omega) only [zck_t, if_pos]
  obtain ⟨⟨al, ar, y, cr', n'⟩, e, g1, g2⟩ := H
  replace g1 : al = qSm (qFA cx cy c) 0 32 := g1
  replace g2 : ar = qSm (qFB cx cy c de a) 0 32 := g2
  refine ⟨cr', n', ?_, bA, bB⟩
  unfold f_X5_partCovered
  rw [pE_greatest hc hb, pE_least hc hb]
  simp (disch := omega) only [zb1_e, zck_t, zlt]
  rw [e]
  simp only [zb5_e]
  rw [g1, g2]
  unfold qV
  generalize qSm (qFA cx cy c) 0 32 = al at *
  generalize qSm (qFB cx cy c de a) 0 32 = ar at *
  by_cases z : al = 0
  · rw [if_pos z]
    simp (disch := omega) only [zck_t, if_pos]
  · rw [if_neg z]
    have hz := qFp_zn (qFp_div (a := ar) (b := al) (by omega) (by omega)).1
    simp (disch := first | omega | assumption) only [zck_t, if_neg]
