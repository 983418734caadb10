/-! ===== the commands are sound ===== -/
theorem yfc_nn {a : UInt32} (h : qFp a) : 0 ≤ yfc a 0 := by
  have e0 : FP.Core.decode FP.Core.b32 0 = .fin false 0 (-149) := by decide +kernel
  have key : ∃ o, FP.fcmp a 0 = some o ∧ ¬ o = .lt := by
    show ∃ o, FP.Core.order (FP.Core.decode FP.Core.b32 a.toNat) (FP.Core.decode FP.Core.b32 0) = some o ∧ ¬ o = .lt
    rw [e0]
    rcases qF32_dec h with g | ⟨c, q, g⟩
    · rw [g]
      exact ⟨_, rfl, by decide⟩
    · rw [g]
      refine ⟨_, rfl, ?_⟩
      intro hlt
      have hlt2 := Std.compare_eq_lt.mp hlt
      have hlt3 : ((c * 2 ^ (q - min q (-149)).toNat : Nat) : Int) < ((0 * 2 ^ ((-149) - min q (-149)).toNat : Nat) : Int) := hlt2
      rw [Nat.zero_mul] at hlt3
      exact absurd hlt3 (Int.not_lt.mpr (Int.natCast_nonneg _))
  obtain ⟨o, e, ho⟩ := key
  unfold yfc
  rw [e]
  cases o with
  | lt => exact absurd rfl ho
  | eq => decide
  | gt => decide
theorem yfc_R {a b : UInt32} : zR (yfc a b) := zR_of _
/-- a TRIM is ahead of a JUMP -/
def yTJ : List qC → Prop
  | [] => True
  | m :: C => (m.1 = 2 → ∃ m' C', C = m' :: C' ∧ m'.1 = 1) ∧ yTJ C
theorem yTJ_app {A B : List qC} (hA : yTJ A) (hB : yTJ B) : yTJ (A ++ B) := by
  induction A with
  | nil => exact hB
  | cons m A ih =>
    refine ⟨fun z => ?_, ih hA.2⟩
    obtain ⟨m', C', e, h⟩ := hA.1 z
    exact ⟨m', C' ++ B, by rw [e]; rfl, h⟩
theorem yTJ_n {A : List qC} (h : ∀ m ∈ A, ¬ m.1 = 2) : yTJ A := by
  induction A with
  | nil => trivial
  | cons m A ih => exact ⟨fun z => absurd z (h m (List.mem_cons.mpr (Or.inl rfl))), ih (fun x hx => h x (List.mem_cons.mpr (Or.inr hx)))⟩
theorem yTJ_at {C : List qC} (h : yTJ C) : ∀ (k : Nat) (m : qC), C[k]? = some m → m.1 = 2 → ∃ m', C[k + 1]? = some m' ∧ m'.1 = 1 := by
  induction C with
  | nil => intro k m e; cases e
  | cons c C ih =>
    intro k m e h2
    cases k with
    | zero =>
      have e' : c = m := Option.some.inj e
      subst e'
      obtain ⟨m', C', e2, e3⟩ := h.1 h2
      exact ⟨m', by rw [e2]; rfl, e3⟩
    | succ k => exact ih h.2 k m e h2
/-- all places on the way are in the box -/
def yBx : Int × Int → List qC → Prop
  | p, [] => qBox p
  | p, m :: C => qBox p ∧ yBx (p.1 + m.2.1, p.2 + m.2.2.1) C
theorem yBx_app {p : Int × Int} {A B : List qC} (hA : yBx p A) (hB : yBx (qEnd p A) B) : yBx p (A ++ B) := by
  induction A generalizing p with
  | nil => exact hB
  | cons m A ih => exact ⟨hA.1, ih hA.2 hB⟩
theorem yBx_take {p : Int × Int} {C : List qC} (h : yBx p C) : ∀ k : Nat, qBox (qEnd p (C.take k)) := by
  induction C generalizing p with
  | nil => intro k; rw [List.take_nil]; exact h
  | cons m C ih =>
    intro k
    cases k with
    | zero => exact h.1
    | succ k => exact ih h.2 k
theorem yBx_1 {p q : Int × Int} {m : qC} (hp : qBox p) (hq : qBox q) (h : qEnd p [m] = q) : yBx p [m] := by
  refine ⟨hp, ?_⟩
  have e : (p.1 + m.2.1, p.2 + m.2.2.1) = q := h
  rw [e]
  exact hq
theorem yMv_pl {f : Int} {p q : Int × Int} (hp : qBox p) (hq : qBox q) : yBx p (qMv f p q) ∧ ∀ m ∈ qMv f p q, m.1 ≤ 1 := by
  have hE := (qMv_tm (f := 0) (b := f) (p := p) (q := q)).2
  unfold qMv at *
  split
  · exact ⟨hp, fun m hm => by cases hm⟩
  · rename_i z
    rw [if_neg z] at hE
    refine ⟨yBx_1 hp hq hE, fun m hm => ?_⟩
    rw [List.mem_singleton.mp hm]
    show (if qG (q.1 - p.1) (q.2 - p.2) ≤ 12 then (0 : Int) else 1) ≤ 1
    split <;> omega
theorem yGo_pl {f : Int} {p q : Int × Int} (hp : qBox p) (hq : qBox q) : yBx p (qGo f p q) ∧ ∀ m ∈ qGo f p q, m.1 = 1 := by
  have hE := (qGo_tm (f := 0) (b := f) (p := p) (q := q)).2
  unfold qGo at *
  split
  · exact ⟨hp, fun m hm => by cases hm⟩
  · rename_i z
    rw [if_neg z] at hE
    refine ⟨yBx_1 hp hq hE, fun m hm => ?_⟩
    rw [List.mem_singleton.mp hm]
theorem ySew_pl {f : Int} {p : Int × Int} {L : List (Int × Int)} (hp : qBox p) (hL : ∀ q ∈ L, qBox q) : yBx p (qSew f p L) ∧ ∀ m ∈ qSew f p L, m.1 ≤ 1 := by
  induction L generalizing p with
  | nil => exact ⟨hp, fun m hm => by cases hm⟩
  | cons q L ih =>
    have hq := hL q (List.mem_cons.mpr (Or.inl rfl))
    have h1 := yMv_pl (f := f) hp hq
    have h2 := ih hq (fun r hr => hL r (List.mem_cons.mpr (Or.inr hr)))
    refine ⟨yBx_app h1.1 (by rw [(qMv_tm (f := 0) (b := f) (p := p) (q := q)).2]; exact h2.1), fun m hm => ?_⟩
    rcases List.mem_append.mp hm with h | h
    · exact h1.2 m h
    · exact h2.2 m h
theorem yFC_pl {now c b f : Int} {p p0 : Int × Int} {T : List (Int × Int)} (hp : qBox p) (hT : ∀ q ∈ p0 :: T, qBox q) : yBx p (qFC now c b f p p0 T) ∧ yTJ (qFC now c b f p p0 T) ∧ ∀ m ∈ qFC now c b f p p0 T, m.1 ≤ 3 := by
  have h0 := hT p0 (List.mem_cons.mpr (Or.inl rfl))
  have hg := yGo_pl (f := f) hp h0
  have hgE := (qGo_tm (f := 0) (b := f) (p := p) (q := p0)).2
  have hs := ySew_pl (f := f) h0 (fun q hq => hT q (List.mem_cons.mpr (Or.inr hq)))
  have sK : ∀ k : Int, yBx p [((k, 0, 0, -1) : qC)] ∧ qEnd p [((k, 0, 0, -1) : qC)] = p := by
    intro k
    have e : qEnd p [((k, 0, 0, -1) : qC)] = p := by
      show (p.1 + 0, p.2 + 0) = p
      rw [Int.add_zero, Int.add_zero]
    exact ⟨yBx_1 hp hp e, e⟩
  have gs : yBx p (qGo f p p0 ++ qSew f p0 T) ∧ yTJ (qGo f p p0 ++ qSew f p0 T) ∧ ∀ m ∈ qGo f p p0 ++ qSew f p0 T, m.1 ≤ 1 := by
    refine ⟨yBx_app hg.1 (by rw [hgE]; exact hs.1), yTJ_app (yTJ_n (fun m hm => by have := hg.2 m hm; omega)) (yTJ_n (fun m hm => by have := hs.2 m hm; omega)), fun m hm => ?_⟩
    rcases List.mem_append.mp hm with h | h
    · have := hg.2 m h; omega
    · exact hs.2 m h
  have tr : yBx p ((if qSq p p0 ≤ b * b then ([] : List qC) else [(2, 0, 0, -1)]) ++ (qGo f p p0 ++ qSew f p0 T)) ∧ yTJ ((if qSq p p0 ≤ b * b then ([] : List qC) else [(2, 0, 0, -1)]) ++ (qGo f p p0 ++ qSew f p0 T)) ∧ ∀ m ∈ (if qSq p p0 ≤ b * b then ([] : List qC) else [(2, 0, 0, -1)]) ++ (qGo f p p0 ++ qSew f p0 T), m.1 ≤ 3 := by
    split
    · exact ⟨gs.1, gs.2.1, fun m hm => by have := gs.2.2 m hm; omega⟩
    · rename_i z
      refine ⟨yBx_app (sK 2).1 (by rw [(sK 2).2]; exact gs.1), ⟨fun _ => ?_, gs.2.1⟩, fun m hm => ?_⟩
      · have hne : ¬ qG (p0.1 - p.1) (p0.2 - p.2) = 0 := by
          intro q
          have q2 := qG_0.mp q
          have : qSq p p0 = 0 := by
            unfold qSq
            rw [q2.1, q2.2]
            rfl
          have hb : 0 ≤ b * b := by
            rcases Int.le_total 0 b with h | h
            · exact Int.mul_nonneg h h
            · exact Int.mul_nonneg_of_nonpos_of_nonpos h h
          omega
        refine ⟨(1, p0.1 - p.1, p0.2 - p.2, f), qSew f p0 T, ?_, rfl⟩
        show qGo f p p0 ++ qSew f p0 T = _
        unfold qGo
        rw [if_neg hne]
        rfl
      · rcases List.mem_append.mp hm with h | h
        · rw [List.mem_singleton.mp h]; show (2 : Int) ≤ 3; omega
        · have := gs.2.2 m h; omega
  unfold qFC
  rw [List.append_assoc, List.append_assoc]
  split
  · exact tr
  · refine ⟨yBx_app (sK 3).1 (by rw [(sK 3).2]; exact tr.1), ⟨fun z => by replace z : (3 : Int) = 2 := z; omega, tr.2.1⟩, fun m hm => ?_⟩
    rcases List.mem_append.mp hm with h | h
    · rw [List.mem_singleton.mp h]; exact Int.le_refl 3
    · exact tr.2.2 m h
theorem yRun_pl {n : Int} {la co : Int → Int} {P : Int → List (Int × Int)} {bd : Int} (hA : qAll n la co P) (k : Nat) : ∀ {t : qS}, qRun n la co P bd k (qS0 n P) t → yBx (0, 0) t.2.1 ∧ yTJ t.2.1 ∧ ∀ m ∈ t.2.1, m.1 ≤ 3 := by
  induction k with
  | zero =>
    intro t h
    rw [h]
    exact ⟨show (-3 ≤ (0 : Int) ∧ (0 : Int) ≤ 34) ∧ (0 ≤ (0 : Int) ∧ (0 : Int) ≤ 31) by omega, trivial, fun m hm => by cases hm⟩
  | succ k ih =>
    intro t h
    obtain ⟨u, u1, u2⟩ := h
    have hI := (qRun_I hA k qS0_I u1).1
    have hE := (qRun_tm hA k u1).1
    obtain ⟨b, p0, T, e1, e2, e3⟩ := u2
    have hb := hA.2 b e1.1.1 e1.1.2
    obtain ⟨g1, g2, g3⟩ := ih u1
    obtain ⟨f1, f2, f3⟩ := yFC_pl (now := u.2.2.2) (c := co b) (b := bd) (f := b) (p := u.2.2.1) (p0 := p0) (T := T) hI.2.2.2.1 (by rw [← e2]; exact hb.2.2.2)
    subst e3
    refine ⟨yBx_app g1 (by rw [hE]; exact f1), yTJ_app g2 f2, fun m hm => ?_⟩
    rcases List.mem_append.mp hm with h | h
    · exact g3 m h
    · exact f3 m h
/-- what holds of all commands -/
theorem yC_pl {f : yF} {bd : Int} (h : yWfF f) (hb : 0 ≤ bd ∧ bd ≤ 100) : ∃ C', yC f bd = C' ++ [(4, 0, 0, -1)] ∧ (∀ m ∈ C', m.1 ≤ 3) ∧ yBx (0, 0) (yC f bd) ∧ yTJ (yC f bd) := by
  obtain ⟨k, s, r, _, e⟩ := (yC_ok h hb).1
  obtain ⟨g1, g2, g3⟩ := yRun_pl (yAll h) k r
  have hI := (qRun_I (yAll h) k qS0_I r).1
  have hE := (qRun_tm (yAll h) k r).1
  refine ⟨s.2.1, e, g3, ?_, ?_⟩
  · rw [e]
    refine yBx_app g1 ?_
    rw [hE]
    refine yBx_1 hI.2.2.2.1 hI.2.2.2.1 ?_
    show (s.2.2.1.1 + 0, s.2.2.1.2 + 0) = s.2.2.1
    rw [Int.add_zero, Int.add_zero]
  · rw [e]
    exact yTJ_app g2 (yTJ_n (fun m hm => by rw [List.mem_singleton.mp hm]; show ¬ (4 : Int) = 2; decide))
theorem yq_of4 {S : yS} {k : Nat} {m : qC} (h : (yC S.1 S.2.1)[k]? = some m) {w : Int} (hw : 0 ≤ w ∧ w ≤ 3) : y_ofCommand S k w = (0, yTold m w) := by
  have hk : k < (yC S.1 S.2.1).length := by
    rcases Nat.lt_or_ge k (yC S.1 S.2.1).length with q | q
    · exact q
    · rw [List.getElem?_eq_none q] at h; cases h
  rw [yq_of (by omega) (by omega) hw]
  rw [List.getD_eq_getElem?_getD, show ((k : Int).toNat) = k by omega, h]
  rfl
