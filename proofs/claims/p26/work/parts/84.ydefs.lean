/-! ===== the state of an object as a value, and what its calls answer ===== -/
/-- the fields: how many, colour, layer, column, corners' x and y, how many corners, density, length, shift, pull, underlay -/
abbrev yF : Type := Int × (Int → Int) × (Int → Int) × (Int → Int) × (Int → Int → Int) × (Int → Int → Int) × (Int → Int) × (Int → Int) × (Int → Int) × (Int → Int) × (Int → Int) × (Int → Int)
/-- the file: its length, format, bytes -/
abbrev yL : Type := Int × Int × (Int → Int)
/-- the machine: heads, late, commands, place, kinds, where a head broke (-1: whole), what it has sewn -/
abbrev yM : Type := Int × Int × Int × Int × (Int → Int) × (Int → Int) × (Int → Int)
abbrev yS : Type := yF × Int × yL × yM
abbrev yP (f : yF) : Int → List (Int × Int) := qPF f.2.2.2.1 f.2.2.2.2.2.2.1 f.2.2.2.2.1 f.2.2.2.2.2.1 f.2.2.2.2.2.2.2.1 f.2.2.2.2.2.2.2.2.1 f.2.2.2.2.2.2.2.2.2.1 f.2.2.2.2.2.2.2.2.2.2.1 f.2.2.2.2.2.2.2.2.2.2.2
abbrev yPlanOf (f : yF) (bd : Int) (C : List qC) : Prop := qPlan f.1 f.2.2.1 f.2.1 (yP f) bd C
/-- the commands of all fields as they are -/
noncomputable def yC (f : yF) (bd : Int) : List qC := Classical.epsilon (fun C => yPlanOf f bd C)
abbrev yWfF (f : yF) : Prop := qLC f.1 f.2.2.1 f.2.1 ∧ qFds f.1 f.2.2.2.1 f.2.2.2.2.2.2.1 f.2.2.2.2.1 f.2.2.2.2.2.1 f.2.2.2.2.2.2.2.1 f.2.2.2.2.2.2.2.2.1 f.2.2.2.2.2.2.2.2.2.1 f.2.2.2.2.2.2.2.2.2.2.1 f.2.2.2.2.2.2.2.2.2.2.2
def yWfL (L : yL) : Prop := (0 ≤ L.1 ∧ L.1 ≤ 49924) ∧ (L.2.1 = 0 ∨ L.2.1 = 1) ∧ ∀ j, 0 ≤ j → j < L.1 → 0 ≤ L.2.2 j ∧ L.2.2 j ≤ 255
def yWfM (M : yM) : Prop := (0 ≤ M.1 ∧ M.1 ≤ 4) ∧ (0 ≤ M.2.1 ∧ M.2.1 ≤ 20) ∧ (0 ≤ M.2.2.1 ∧ M.2.2.1 ≤ 16641) ∧ (0 ≤ M.2.2.2.1 ∧ M.2.2.2.1 ≤ M.2.2.1) ∧ (∀ j, 0 ≤ j → j < M.2.2.1 → 0 ≤ M.2.2.2.2.1 j ∧ M.2.2.2.2.1 j ≤ 4) ∧ ∀ h, 0 ≤ h → h < M.1 → M.2.2.2.2.2.1 h = -1 ∨ (0 ≤ M.2.2.2.2.2.1 h ∧ M.2.2.2.2.2.1 h ≤ M.2.2.2.1)
def yWf (S : yS) : Prop := yWfF S.1 ∧ (0 ≤ S.2.1 ∧ S.2.1 ≤ 100) ∧ yWfL S.2.2.1 ∧ yWfM S.2.2.2
/-- the class's machine holds the value -/
def yMh (M : yM) (sa br ba st : Int → Int) : Prop := sa 0 = 0 ∧ (∀ j, 0 ≤ j → j ≤ M.2.2.1 → sa j = qCt (qK0 M.2.2.2.2.1) j) ∧ ∀ h, 0 ≤ h → h < M.1 → st h = M.2.2.2.2.2.2 h ∧ ((br h = 0 ∧ M.2.2.2.2.2.1 h = -1) ∨ (br h = 1 ∧ ba h = M.2.2.2.2.2.1 h ∧ 0 ≤ M.2.2.2.2.2.1 h))
/-- the class's own rows hold the value -/
def yIv (S : yS) (pl : Int) (dr : Int → Int) (xs ys : Int → Int → Int) (sz k x y o kc th : Int → Int) (m : Int) (sec : UInt32) (pb sa br ba st : Int → Int) : Prop := yWf S ∧ qCl S.1.1 S.1.2.2.1 S.1.2.1 (yP S.1) S.2.1 pl dr xs ys sz k x y o kc th m sec ∧ (∀ j, 0 ≤ j → j < S.2.2.1.1 → pb j = S.2.2.1.2.2 j) ∧ yMh S.2.2.2 sa br ba st
/-! what the calls answer: what is thrown (0: nothing), the answer, the state behind -/
def y_field (S : yS) (p1 p2 p3 : Int) : Int × Int × yS :=
  if ¬ (0 ≤ p1 ∧ p1 ≤ 5) then (1, 0, S) else if ¬ (0 ≤ p2 ∧ p2 ≤ 3) then (1, 0, S) else if 8 ≤ S.1.1 then (2, 0, S) else
  (0, S.1.1, (S.1.1 + 1, zup S.1.2.1 S.1.1 p1, zup S.1.2.2.1 S.1.1 p2, zup S.1.2.2.2.1 S.1.1 p3, zup S.1.2.2.2.2.1 S.1.1 (fun _ => 0), zup S.1.2.2.2.2.2.1 S.1.1 (fun _ => 0), zup S.1.2.2.2.2.2.2.1 S.1.1 0, zup S.1.2.2.2.2.2.2.2.1 S.1.1 2, zup S.1.2.2.2.2.2.2.2.2.1 S.1.1 6, zup S.1.2.2.2.2.2.2.2.2.2.1 S.1.1 0, zup S.1.2.2.2.2.2.2.2.2.2.2.1 S.1.1 0, zup S.1.2.2.2.2.2.2.2.2.2.2.2 S.1.1 0), S.2)
def y_corner (S : yS) (f x y : Int) : Int × Int × yS :=
  if ¬ (0 ≤ f ∧ f ≤ S.1.1 - 1) then (3, 0, S) else if ¬ ((0 ≤ x ∧ x ≤ 31) ∧ 0 ≤ y ∧ y ≤ 31) then (1, 0, S) else
  if ¬ S.1.2.2.2.2.2.2.1 f < (if S.1.2.2.2.1 f = 0 then 8 else 4) then (2, 0, S) else
  (0, S.1.2.2.2.2.2.2.1 f + 1, (S.1.1, S.1.2.1, S.1.2.2.1, S.1.2.2.2.1, zup S.1.2.2.2.2.1 f (zup (S.1.2.2.2.2.1 f) (S.1.2.2.2.2.2.2.1 f) x), zup S.1.2.2.2.2.2.1 f (zup (S.1.2.2.2.2.2.1 f) (S.1.2.2.2.2.2.2.1 f) y), zup S.1.2.2.2.2.2.2.1 f (S.1.2.2.2.2.2.2.1 f + 1), S.1.2.2.2.2.2.2.2), S.2)
def y_sew (S : yS) (f de le sh pu un : Int) : Int × yS :=
  if ¬ (0 ≤ f ∧ f ≤ S.1.1 - 1) then (3, S) else if ¬ (1 ≤ de ∧ de ≤ 8) then (1, S) else if ¬ (1 ≤ le ∧ le ≤ 12) then (1, S) else if ¬ (0 ≤ sh ∧ sh ≤ 11) then (1, S) else if ¬ (0 ≤ pu ∧ pu ≤ 3) then (1, S) else
  (0, (S.1.1, S.1.2.1, S.1.2.2.1, S.1.2.2.2.1, S.1.2.2.2.2.1, S.1.2.2.2.2.2.1, S.1.2.2.2.2.2.2.1, zup S.1.2.2.2.2.2.2.2.1 f de, zup S.1.2.2.2.2.2.2.2.2.1 f le, zup S.1.2.2.2.2.2.2.2.2.2.1 f sh, zup S.1.2.2.2.2.2.2.2.2.2.2.1 f pu, zup S.1.2.2.2.2.2.2.2.2.2.2.2 f un), S.2)
/-- corners, scaled -/
def yRs (a : Int → Int) (c p : Int) : Int → Int := fun i => if 0 ≤ i ∧ i < c then a i * p / 100 else a i
def y_scale (S : yS) (f p : Int) : Int × yS :=
  if ¬ (0 ≤ f ∧ f ≤ S.1.1 - 1) then (3, S) else if ¬ (1 ≤ p ∧ p ≤ 400) then (1, S) else
  if qAny (fun i => decide (31 < max (S.1.2.2.2.2.1 f i) (S.1.2.2.2.2.2.1 f i) * p / 100)) 0 (S.1.2.2.2.2.2.2.1 f) = true then (2, S) else
  (0, (S.1.1, S.1.2.1, S.1.2.2.1, S.1.2.2.2.1, zup S.1.2.2.2.2.1 f (yRs (S.1.2.2.2.2.1 f) (S.1.2.2.2.2.2.2.1 f) p), zup S.1.2.2.2.2.2.1 f (yRs (S.1.2.2.2.2.2.1 f) (S.1.2.2.2.2.2.2.1 f) p), S.1.2.2.2.2.2.2), S.2)
def y_bound (S : yS) (p : Int) : Int × Int × yS := if ¬ (0 ≤ p ∧ p ≤ 100) then (1, 0, S) else (0, S.2.1, S.1, p, S.2.2)
noncomputable def y_commands (S : yS) : Int := ((yC S.1 S.2.1).length : Int)
/-- what of a command -/
def yTold (m : qC) (w : Int) : Int := if w = 0 then m.1 else if w = 1 then m.2.1 else if w = 2 then m.2.2.1 else m.2.2.2
noncomputable def y_ofCommand (S : yS) (c w : Int) : Int × Int :=
  if ¬ (0 ≤ c ∧ c ≤ ((yC S.1 S.2.1).length : Int) - 1) then (3, 0) else if ¬ (0 ≤ w ∧ w ≤ 3) then (1, 0) else (0, yTold ((yC S.1 S.2.1).getD c.toNat (0, 0, 0, 0)) w)
noncomputable def y_count (S : yS) (k : Int) : Int × Int := if ¬ (0 ≤ k ∧ k ≤ 4) then (1, 0) else (0, qSum (qIsK k) (yC S.1 S.2.1))
noncomputable def y_time (S : yS) : UInt32 := qSec (yC S.1 S.2.1)
noncomputable def y_thread (S : yS) (c : Int) : Int × Int := if ¬ (0 ≤ c ∧ c ≤ 5) then (1, 0) else (0, qSum (qThr S.1.2.1 c) (yC S.1 S.2.1))
def yCel (f : yF) (i : Int) : Int → Int := qInd (qToL (yP f i))
def y_covered (S : yS) (f : Int) : Int × UInt32 :=
  if ¬ (0 ≤ f ∧ f ≤ S.1.1 - 1) then (3, 0) else if ¬ S.1.2.2.2.1 f = 0 then (0, 0) else
  (0, qV (qSm (qFA (S.1.2.2.2.2.1 f) (S.1.2.2.2.2.2.1 f) (S.1.2.2.2.2.2.2.1 f)) 0 32) (qSm (qFB (S.1.2.2.2.2.1 f) (S.1.2.2.2.2.2.1 f) (S.1.2.2.2.2.2.2.1 f) (S.1.2.2.2.2.2.2.2.1 f) (yCel S.1 f)) 0 32))
def y_touched (S : yS) (f : Int) : Int × Int := if ¬ (0 ≤ f ∧ f ≤ S.1.1 - 1) then (3, 0) else (0, qCt (yCel S.1 f) 1024)
/-- a file of the commands C in the format fm -/
def yFile (fm : Int) (C : List qC) : List Int := qFile fm C
def yByt (fm : Int) (C : List qC) : Int → Int := fun j => (yFile fm C ++ [qCt (fun i => (yFile fm C).getD i.toNat 0) ((yFile fm C).length : Int) % 256]).getD j.toNat 0
noncomputable def y_write (S : yS) (fm : Int) : Int × Int × yS :=
  if ¬ (fm = 0 ∨ fm = 1) then (1, 0, S) else (0, ((yFile fm (yC S.1 S.2.1)).length : Int) + 1, S.1, S.2.1, (((yFile fm (yC S.1 S.2.1)).length : Int) + 1, fm, yByt fm (yC S.1 S.2.1)), S.2.2.2)
def y_byteAt (S : yS) (p : Int) : Int × Int := if ¬ (0 ≤ p ∧ p < S.2.2.1.1) then (3, 0) else (0, S.2.2.1.2.2 p)
def y_damage (S : yS) (p v : Int) : Int × Int × yS :=
  if ¬ (0 ≤ p ∧ p < S.2.2.1.1) then (3, 0, S) else if ¬ (0 ≤ v ∧ v ≤ 255) then (1, 0, S) else (0, S.2.2.1.2.2 p, S.1, S.2.1, (S.2.2.1.1, S.2.2.1.2.1, zup S.2.2.1.2.2 p v), S.2.2.2)
def y_shorten (S : yS) (l : Int) : Int × Int × yS := if ¬ (0 ≤ l ∧ l ≤ S.2.2.1.1) then (1, 0, S) else (0, S.2.2.1.1, S.1, S.2.1, (l, S.2.2.1.2), S.2.2.2)
/-- the fault of a file, and the STITCHes ahead of it -/
def yRead (L : yL) : Int × Int := qRd L.1 L.2.1 L.2.2 L.1.toNat 0 0
def y_fault (S : yS) : Int := (yRead S.2.2.1).1
def y_reads (S : yS) : Int := (yRead S.2.2.1).2
noncomputable def y_start (S : yS) (h l : Int) : Int × yS :=
  if ¬ (1 ≤ h ∧ h ≤ 4) then (1, S) else if ¬ (0 ≤ l ∧ l ≤ 20) then (1, S) else
  (0, S.1, S.2.1, S.2.2.1, h, l, ((yC S.1 S.2.1).length : Int), 0, (fun j => ((yC S.1 S.2.1).getD j.toNat (0, 0, 0, 0)).1), (fun _ => -1), fun _ => 0)
/-- whether a head stops the machine -/
def yStd (hc la cc : Int) (bk : Int → Int) (at' : Int) : Bool := qAny (fun h => decide (qSn la cc at' bk h = 1)) 0 hc
def yRun (hc la cc : Int) (ki bk : Int → Int) : Nat → Int → (Int → Int) → Int × (Int → Int)
  | 0, at', sw => (at', sw)
  | k + 1, at', sw => if at' < cc ∧ yStd hc la cc bk at' = false then yRun hc la cc ki bk k (at' + 1) (fun h => if bk h = -1 then sw h + qK0 ki at' else sw h) else (at', sw)
def y_run (S : yS) (c : Int) : Int × Int × yS :=
  if ¬ (1 ≤ c ∧ c ≤ 1000) then (1, 0, S) else if S.2.2.2.1 = 0 then (2, 0, S) else
  (0, (yRun S.2.2.2.1 S.2.2.2.2.1 S.2.2.2.2.2.1 S.2.2.2.2.2.2.2.1 S.2.2.2.2.2.2.2.2.1 c.toNat S.2.2.2.2.2.2.1 S.2.2.2.2.2.2.2.2.2).1 - S.2.2.2.2.2.2.1, S.1, S.2.1, S.2.2.1, S.2.2.2.1, S.2.2.2.2.1, S.2.2.2.2.2.1, (yRun S.2.2.2.1 S.2.2.2.2.1 S.2.2.2.2.2.1 S.2.2.2.2.2.2.2.1 S.2.2.2.2.2.2.2.2.1 c.toNat S.2.2.2.2.2.2.1 S.2.2.2.2.2.2.2.2.2).1, S.2.2.2.2.2.2.2.1, S.2.2.2.2.2.2.2.2.1, (yRun S.2.2.2.1 S.2.2.2.2.1 S.2.2.2.2.2.1 S.2.2.2.2.2.2.2.1 S.2.2.2.2.2.2.2.2.1 c.toNat S.2.2.2.2.2.2.1 S.2.2.2.2.2.2.2.2.2).2)
def y_breaks (S : yS) (h : Int) : Int × yS :=
  if ¬ (0 ≤ h ∧ h ≤ S.2.2.2.1 - 1) then (3, S) else if ¬ S.2.2.2.2.2.2.2.2.1 h = -1 then (2, S) else
  (0, S.1, S.2.1, S.2.2.1, S.2.2.2.1, S.2.2.2.2.1, S.2.2.2.2.2.1, S.2.2.2.2.2.2.1, S.2.2.2.2.2.2.2.1, zup S.2.2.2.2.2.2.2.2.1 h S.2.2.2.2.2.2.1, S.2.2.2.2.2.2.2.2.2)
/-- the STITCHes from the place a to b -/
def yBet (ki : Int → Int) (a b : Int) : Int := qCt (qK0 ki) b - qCt (qK0 ki) a
def y_mend (S : yS) (h : Int) : Int × Int × yS :=
  if ¬ (0 ≤ h ∧ h ≤ S.2.2.2.1 - 1) then (3, 0, S) else if ¬ qSn S.2.2.2.2.1 S.2.2.2.2.2.1 S.2.2.2.2.2.2.1 S.2.2.2.2.2.2.2.2.1 h = 1 then (2, 0, S) else
  (0, yBet S.2.2.2.2.2.2.2.1 (max 0 (S.2.2.2.2.2.2.2.2.1 h - 3)) S.2.2.2.2.2.2.1, S.1, S.2.1, S.2.2.1, S.2.2.2.1, S.2.2.2.2.1, S.2.2.2.2.2.1, S.2.2.2.2.2.2.1, S.2.2.2.2.2.2.2.1, zup S.2.2.2.2.2.2.2.2.1 h (-1), zup S.2.2.2.2.2.2.2.2.2 h (S.2.2.2.2.2.2.2.2.2 h + yBet S.2.2.2.2.2.2.2.1 (max 0 (S.2.2.2.2.2.2.2.2.1 h - 3)) S.2.2.2.2.2.2.1))
def y_sewn (S : yS) (h : Int) : Int × Int := if ¬ (0 ≤ h ∧ h ≤ S.2.2.2.1 - 1) then (3, 0) else (0, S.2.2.2.2.2.2.2.2.2 h)
