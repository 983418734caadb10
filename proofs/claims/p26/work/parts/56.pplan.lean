/-! ===== commands: a field is sewn ===== -/
/-- a command: its kind, its differences, its field -/
abbrev qC : Type := Int × Int × Int × Int
def qCm (k x y o : Int → Int) (n : Int) (C : List qC) : Prop := qRow (fun i => ((k i, x i, y i, o i) : qC)) n C
theorem qCm_put {k x y o : Int → Int} {n : Int} {C : List qC} (h : qCm k x y o n C) (a b c d : Int) : qCm (zup k n a) (zup x n b) (zup y n c) (zup o n d) (n + 1) (C ++ [(a, b, c, d)]) := by
  have := qRow_put h ((a, b, c, d) : qC)
  unfold qCm
  have e : (fun i => ((zup k n a i, zup x n b i, zup y n c i, zup o n d i) : qC)) = zup (fun i => ((k i, x i, y i, o i) : qC)) n (a, b, c, d) := by
    funext i
    unfold zup
    by_cases q : i = n
    · rw [if_pos q, if_pos q, if_pos q, if_pos q, if_pos q]
    · rw [if_neg q, if_neg q, if_neg q, if_neg q, if_neg q]
  rw [e]
  exact this
/-- sums over commands -/
def qSum (g : qC → Int) (C : List qC) : Int := C.foldl (fun s m => s + g m) 0
theorem qSum_app {g : qC → Int} {C : List qC} {m : qC} : qSum g (C ++ [m]) = qSum g C + g m := by
  unfold qSum
  rw [List.foldl_append]
  rfl
def qIsK (k : Int) (m : qC) : Int := if m.1 = k then 1 else 0
def qThr (col : Int → Int) (c : Int) (m : qC) : Int := if m.1 = 0 ∧ col m.2.2.2 = c then qRoot (100 * (m.2.1 * m.2.1 + m.2.2.1 * m.2.2.1)) else 0
def qSecM (m : qC) : UInt32 := if m.1 = 0 then (if 4 < qG m.2.1 m.2.2.1 then 1036831949 else 1033476506) else if m.1 = 1 then 1045220557 else if m.1 = 2 then 1086324736 else if m.1 = 3 then 1090519040 else 0
def qSec (C : List qC) : UInt32 := C.foldl (fun s m => FP.fadd s (qSecM m)) 0
theorem qSec_app {C : List qC} {m : qC} : qSec (C ++ [m]) = FP.fadd (qSec C) (qSecM m) := by
  unfold qSec
  rw [List.foldl_append]
  rfl
theorem qSecM_p (m : qC) : qFp (qSecM m) := by
  unfold qSecM qFp
  split
  · split <;> decide
  · split
    · decide
    · split
      · decide
      · split <;> decide
theorem qSec_p (C : List qC) : qFp (qSec C) := by
  unfold qSec
  have : ∀ (C : List qC) (s : UInt32), qFp s → qFp (C.foldl (fun s m => FP.fadd s (qSecM m)) s) := by
    intro C
    induction C with
    | nil => intro s h; exact h
    | cons m C ih => intro s h; exact ih _ (qFp_add h (qSecM_p m))
  exact this C 0 qFp_0
theorem qSqr {d D : Int} (h : -D ≤ d ∧ d ≤ D) : 0 ≤ d * d ∧ d * d ≤ D * D := by
  rcases Int.lt_or_le d 0 with q | q
  · have e1 := qSq_le (a := -d) (b := D) (by omega) (by omega)
    have e2 := Int.mul_nonneg (show 0 ≤ -d by omega) (show 0 ≤ -d by omega)
    rw [Int.neg_mul_neg] at e1 e2
    exact ⟨e2, e1⟩
  · exact ⟨Int.mul_nonneg q q, qSq_le q h.2⟩
/-- the commands of the plan, with their sums -/
def qPR (col : Int → Int) (C : List qC) (k x y o kc th : Int → Int) (n : Int) (sec : UInt32) : Prop := qCm k x y o n C ∧ (∀ i, 0 ≤ i → i < 5 → kc i = qSum (qIsK i) C) ∧ (∀ c, 0 ≤ c → c < 6 → th c = qSum (qThr col c) C) ∧ sec = qSec C
theorem pE_secs {k x y o : Int} (hx : -100 ≤ x ∧ x ≤ 100) (hy : -100 ≤ y ∧ y ≤ 100) (hk : 0 ≤ k ∧ k ≤ 4) : f_X3_secondsOf k (qG x y) = some (qSecM (k, x, y, o)) := by
  have hg := qG_e x y
  unfold f_X3_secondsOf qSecM
  show _ = some (if k = 0 then (if 4 < qG x y then 1036831949 else 1033476506) else if k = 1 then 1045220557 else if k = 2 then 1086324736 else if k = 3 then 1090519040 else 0)
  by_cases k0 : k = 0
  · rw [if_pos k0]
    by_cases g : 4 < qG x y
    · rw [if_pos g]
      simp (disch := omega) only [zck_t, if_pos]
    · rw [if_neg g]
      simp (disch := omega) only [zck_t, if_pos, if_neg]
  · rw [if_neg k0]
    by_cases k1 : k = 1
    · rw [if_pos k1]
      simp (disch := omega) only [zck_t, if_pos, if_neg]
    · rw [if_neg k1]
      by_cases k2 : k = 2
      · rw [if_pos k2]
        simp (disch := omega) only [zck_t, if_pos, if_neg]
      · rw [if_neg k2]
        by_cases k3 : k = 3
        · rw [if_pos k3]
          simp (disch := omega) only [zck_t, if_pos, if_neg]
        · rw [if_neg k3]
          simp (disch := omega) only [zck_t, if_neg]
theorem pE_pput {col k x y o kc th : Int → Int} {C : List qC} {n now p1 p2 p3 p4 : Int} {sec : UInt32} (h : qPR col C k x y o kc th n sec) (hn : n < 16641) (hk : 0 ≤ p1 ∧ p1 ≤ 4) (hx : -100 ≤ p2 ∧ p2 ≤ 100) (hy : -100 ≤ p3 ∧ p3 ≤ 100) (hs : p1 = 0 → (col p4 = now ∧ 0 ≤ now ∧ now < 6) ∧ (-12 ≤ p2 ∧ p2 ≤ 12) ∧ (-12 ≤ p3 ∧ p3 ≤ 12)) :
    ∃ k' x' y' o' kc' th' n' sec', f_X3_put k x y o kc th n sec now p1 p2 p3 p4 = some (k', x', y', o', kc', th', n', sec') ∧ qPR col (C ++ [(p1, p2, p3, p4)]) k' x' y' o' kc' th' n' sec' := by
  obtain ⟨h1, h2, h3, h4⟩ := h
  have hn0 := qRow_nn h1
  have hc := qCm_put h1 p1 p2 p3 p4
  have hsec : FP.fadd sec (qSecM (p1, p2, p3, p4)) = qSec (C ++ [(p1, p2, p3, p4)]) := by rw [qSec_app, h4]
  have hzn : zn32 (FP.fadd sec (qSecM (p1, p2, p3, p4))) := by
    rw [hsec]
    exact qFp_zn (qSec_p _)
  have hkc : ∀ i, 0 ≤ i → i < 5 → zup kc p1 (kc p1 + 1) i = qSum (qIsK i) (C ++ [(p1, p2, p3, p4)]) := by
    intro i i0 i1
    rw [qSum_app]
    by_cases q : i = p1
    · subst q
      rw [zup_s, h2 i i0 i1]
      unfold qIsK
      rw [if_pos rfl]
    · rw [zup_n q, h2 i i0 i1]
      unfold qIsK
      rw [if_neg (fun z => q z.symm)]
      omega
  have hsc := pE_secs (o := p4) hx hy hk
  unfold f_X3_put
  rw [pE_great (by omega) (by omega)]
  by_cases q : p1 = 0
  · obtain ⟨⟨s1, s2, s3⟩, s4, s5⟩ := hs q
    have e1 := qSqr s4
    have e2 := qSqr s5
    have hro := pE_root (v := 100 * (p2 * p2 + p3 * p3)) (by omega)
    refine ⟨zup k n p1, zup x n p2, zup y n p3, zup o n p4, zup kc p1 (kc p1 + 1), zup th now (th now + qRoot (100 * (p2 * p2 + p3 * p3))), n + 1, FP.fadd sec (qSecM (p1, p2, p3, p4)), ?_, hc, hkc, ?_, hsec⟩
    · simp (disch := first | omega | assumption) only [zck_t, if_pos, if_neg, zlt, zb1_e, hsc, hro.2.1]
    · intro c c0 c1
      rw [qSum_app]
      by_cases qc : c = now
      · subst qc
        rw [zup_s, h3 c c0 c1]
        unfold qThr
        rw [if_pos ⟨q, s1⟩]
      · rw [zup_n qc, h3 c c0 c1]
        unfold qThr
        rw [if_neg (fun z => qc (by rw [← z.2]; exact s1))]
        omega
  · refine ⟨zup k n p1, zup x n p2, zup y n p3, zup o n p4, zup kc p1 (kc p1 + 1), th, n + 1, FP.fadd sec (qSecM (p1, p2, p3, p4)), ?_, hc, hkc, ?_, hsec⟩
    · simp (disch := first | omega | assumption) only [zck_t, if_pos, if_neg, zlt, zb1_e, hsc]
    · intro c c0 c1
      rw [qSum_app, h3 c c0 c1]
      unfold qThr
      rw [if_neg (fun z => q z.1)]
      omega
/-- from one place to another: what is put -/
def qMv (f : Int) (p q : Int × Int) : List qC := if qG (q.1 - p.1) (q.2 - p.2) = 0 then [] else [(if qG (q.1 - p.1) (q.2 - p.2) ≤ 12 then 0 else 1, q.1 - p.1, q.2 - p.2, f)]
def qGo (f : Int) (p q : Int × Int) : List qC := if qG (q.1 - p.1) (q.2 - p.2) = 0 then [] else [(1, q.1 - p.1, q.2 - p.2, f)]
def qSew (f : Int) : Int × Int → List (Int × Int) → List qC
  | _, [] => []
  | p, q :: L => qMv f p q ++ qSew f q L
theorem qSew_app {f : Int} {p : Int × Int} {A B : List (Int × Int)} : qSew f p (A ++ B) = qSew f p A ++ qSew f (qLast p A) B := by
  induction A generalizing p with
  | nil => rfl
  | cons q A ih =>
    show qMv f p q ++ qSew f q (A ++ B) = qMv f p q ++ qSew f q A ++ qSew f (qLast q A) B
    rw [ih, List.append_assoc]
theorem pE_goTo {col k x y o kc th : Int → Int} {C : List qC} {n nx ny now px py f ms : Int} {sec : UInt32} (h : qPR col C k x y o kc th n sec) (hp : qBox (nx, ny)) (hq : qBox (px, py)) (hms : ms = 0 ∨ ms = 1) (hcol : col f = now ∧ 0 ≤ now ∧ now < 6) (hn : C.length + (if ms = 0 then qGo f (nx, ny) (px, py) else qMv f (nx, ny) (px, py)).length ≤ 16641) :
    ∃ k' x' y' o' kc' th' n' sec', f_X3_goTo k x y o kc th n sec nx ny now px py f ms = some (k', x', y', o', kc', th', n', sec', px, py) ∧ qPR col (C ++ (if ms = 0 then qGo f (nx, ny) (px, py) else qMv f (nx, ny) (px, py))) k' x' y' o' kc' th' n' sec' := by
  obtain ⟨⟨a1, a2⟩, a3, a4⟩ := hp
  obtain ⟨⟨b1, b2⟩, b3, b4⟩ := hq
  replace a1 : -3 ≤ nx := a1
  replace a2 : nx ≤ 34 := a2
  replace a3 : 0 ≤ ny := a3
  replace a4 : ny ≤ 31 := a4
  replace b1 : -3 ≤ px := b1
  replace b2 : px ≤ 34 := b2
  replace b3 : 0 ≤ py := b3
  replace b4 : py ≤ 31 := b4
  have hg := qG_e (px - nx) (py - ny)
  have hnl := h.1.1
  unfold qGo qMv at hn ⊢
  replace hn : C.length + (if ms = 0 then (if qG (px - nx) (py - ny) = 0 then [] else [((1, px - nx, py - ny, f) : qC)]) else (if qG (px - nx) (py - ny) = 0 then [] else [((if qG (px - nx) (py - ny) ≤ 12 then 0 else 1, px - nx, py - ny, f) : qC)])).length ≤ 16641 := hn
  show ∃ k' x' y' o' kc' th' n' sec', _ ∧ qPR col (C ++ (if ms = 0 then (if qG (px - nx) (py - ny) = 0 then [] else [((1, px - nx, py - ny, f) : qC)]) else (if qG (px - nx) (py - ny) = 0 then [] else [((if qG (px - nx) (py - ny) ≤ 12 then 0 else 1, px - nx, py - ny, f) : qC)]))) k' x' y' o' kc' th' n' sec'
  unfold f_X3_goTo f_X3_goTo_60 f_X3_goTo_46 f_X3_goTo_47
  have hge : f_X6_greaterDifference (px - nx) (py - ny) = some (qG (px - nx) (py - ny)) := pE_great (by omega) (by omega)
  by_cases z : qG (px - nx) (py - ny) = 0
  · refine ⟨k, x, y, o, kc, th, n, sec, ?_, ?_⟩
    · simp (disch := omega) only [zck_t, if_pos, zlt, hge, zb1_e]
    · rw [if_pos z, if_pos z]
      rcases hms with q | q <;> subst q
      · rw [if_pos rfl, List.append_nil]; exact h
      · rw [if_neg (by decide), List.append_nil]; exact h
  · rw [if_neg z, if_neg z] at hn ⊢
    rcases hms with q | q
    · subst q
      rw [if_pos rfl] at hn ⊢
      rw [List.length_singleton] at hn
      obtain ⟨k', x', y', o', kc', th', n', sec', e, hr⟩ := pE_pput (now := now) (p1 := 1) (p2 := px - nx) (p3 := py - ny) (p4 := f) h (by omega) (by omega) (by omega) (by omega) (fun w => absurd w (by decide))
      refine ⟨k', x', y', o', kc', th', n', sec', ?_, hr⟩
      simp (disch := omega) only [zck_t, if_neg, if_true, zlt, hge, zb1_e]
      unfold f_X3_goTo_60
      rw [e]
      rfl
    · subst q
      rw [if_neg (by decide)] at hn ⊢
      rw [List.length_singleton] at hn
      by_cases z2 : qG (px - nx) (py - ny) ≤ 12
      · rw [if_pos z2]
        obtain ⟨k', x', y', o', kc', th', n', sec', e, hr⟩ := pE_pput (now := now) (p1 := 0) (p2 := px - nx) (p3 := py - ny) (p4 := f) h (by omega) (by omega) (by omega) (by omega) (fun _ => ⟨hcol, by omega, by omega⟩)
        refine ⟨k', x', y', o', kc', th', n', sec', ?_, hr⟩
        simp (disch := omega) only [zck_t, if_neg, zlt, hge, zb1_e]
        unfold f_X3_goTo_60
        rw [e]
        rfl
      · rw [if_neg z2]
        obtain ⟨k', x', y', o', kc', th', n', sec', e, hr⟩ := pE_pput (now := now) (p1 := 1) (p2 := px - nx) (p3 := py - ny) (p4 := f) h (by omega) (by omega) (by omega) (by omega) (fun w => absurd w (by decide))
        refine ⟨k', x', y', o', kc', th', n', sec', ?_, hr⟩
        simp (disch := omega) only [zck_t, if_neg, if_pos, zlt, hge, zb1_e]
        unfold f_X3_goTo_60
        rw [e]
        rfl
