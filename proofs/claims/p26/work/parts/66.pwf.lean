/-! ===== what commands of a plan look like ===== -/
def qWf (n : Int) (m : qC) : Prop := (0 ≤ m.1 ∧ m.1 ≤ 4) ∧ (-37 ≤ m.2.1 ∧ m.2.1 ≤ 37) ∧ (-37 ≤ m.2.2.1 ∧ m.2.2.1 ≤ 37) ∧ (m.1 = 0 → qG m.2.1 m.2.2.1 ≤ 12) ∧ (m.1 ≤ 1 → (0 ≤ m.2.2.2 ∧ m.2.2.2 < n) ∧ ¬ qG m.2.1 m.2.2.1 = 0) ∧ (2 ≤ m.1 → m.2.1 = 0 ∧ m.2.2.1 = 0 ∧ m.2.2.2 = -1)
/-- how many short commands it is written as -/
def qPc (m : qC) : Int := if m.1 = 1 then (qG m.2.1 m.2.2.1 + 11) / 12 else 1
theorem qBox_d {p q : Int × Int} (hp : qBox p) (hq : qBox q) : (-37 ≤ q.1 - p.1 ∧ q.1 - p.1 ≤ 37) ∧ (-37 ≤ q.2 - p.2 ∧ q.2 - p.2 ≤ 37) := by
  omega
theorem qMv_wf {n f : Int} {p q : Int × Int} (hf : 0 ≤ f ∧ f < n) (hp : qBox p) (hq : qBox q) : ∀ m ∈ qMv f p q, qWf n m := by
  intro m hm
  have hd := qBox_d hp hq
  unfold qMv at hm
  split at hm
  · cases hm
  · rename_i h0
    have e := List.mem_singleton.mp hm
    subst e
    by_cases z : qG (q.1 - p.1) (q.2 - p.2) ≤ 12
    · rw [if_pos z]
      exact ⟨by show 0 ≤ (0 : Int) ∧ (0 : Int) ≤ 4; omega, hd.1, hd.2, fun _ => z, fun _ => ⟨hf, h0⟩, fun w => by replace w : 2 ≤ (0 : Int) := w; omega⟩
    · rw [if_neg z]
      exact ⟨by show 0 ≤ (1 : Int) ∧ (1 : Int) ≤ 4; omega, hd.1, hd.2, fun w => by replace w : (1 : Int) = 0 := w; omega, fun _ => ⟨hf, h0⟩, fun w => by replace w : 2 ≤ (1 : Int) := w; omega⟩
theorem qGo_wf {n f : Int} {p q : Int × Int} (hf : 0 ≤ f ∧ f < n) (hp : qBox p) (hq : qBox q) : ∀ m ∈ qGo f p q, qWf n m := by
  intro m hm
  have hd := qBox_d hp hq
  unfold qGo at hm
  split at hm
  · cases hm
  · rename_i h0
    have e := List.mem_singleton.mp hm
    subst e
    exact ⟨by show 0 ≤ (1 : Int) ∧ (1 : Int) ≤ 4; omega, hd.1, hd.2, fun w => by replace w : (1 : Int) = 0 := w; omega, fun _ => ⟨hf, h0⟩, fun w => by replace w : 2 ≤ (1 : Int) := w; omega⟩
theorem qSew_wf {n f : Int} {p : Int × Int} {L : List (Int × Int)} (hf : 0 ≤ f ∧ f < n) (hp : qBox p) (hL : ∀ q ∈ L, qBox q) : ∀ m ∈ qSew f p L, qWf n m := by
  induction L generalizing p with
  | nil => intro m hm; cases hm
  | cons q L ih =>
    intro m hm
    have hq := hL q (List.mem_cons.mpr (Or.inl rfl))
    rcases List.mem_append.mp hm with h | h
    · exact qMv_wf hf hp hq m h
    · exact ih hq (fun r hr => hL r (List.mem_cons.mpr (Or.inr hr))) m h
theorem qWf_k {n k : Int} (hk : 2 ≤ k ∧ k ≤ 4) : qWf n (k, 0, 0, -1) :=
  ⟨by show 0 ≤ k ∧ k ≤ 4; omega, by show -37 ≤ (0 : Int) ∧ (0 : Int) ≤ 37; omega, by show -37 ≤ (0 : Int) ∧ (0 : Int) ≤ 37; omega, fun w => by replace w : k = 0 := w; omega, fun w => by replace w : k ≤ 1 := w; omega, fun _ => ⟨rfl, rfl, rfl⟩⟩
theorem qFC_wf {n now c b f : Int} {p p0 : Int × Int} {T : List (Int × Int)} (hf : 0 ≤ f ∧ f < n) (hp : qBox p) (hT : ∀ q ∈ p0 :: T, qBox q) : ∀ m ∈ qFC now c b f p p0 T, qWf n m := by
  intro m hm
  have h0 := hT p0 (List.mem_cons.mpr (Or.inl rfl))
  unfold qFC at hm
  rcases List.mem_append.mp hm with hm | hm
  · rcases List.mem_append.mp hm with hm | hm
    · rcases List.mem_append.mp hm with hm | hm
      · split at hm
        · cases hm
        · rw [List.mem_singleton.mp hm]
          exact qWf_k (by omega)
      · split at hm
        · cases hm
        · rw [List.mem_singleton.mp hm]
          exact qWf_k (by omega)
    · exact qGo_wf hf hp h0 m hm
  · exact qSew_wf hf h0 (fun q hq => hT q (List.mem_cons.mpr (Or.inr hq))) m hm
theorem qRun_wf {n : Int} {la co : Int → Int} {P : Int → List (Int × Int)} {bd : Int} (hA : qAll n la co P) (k : Nat) : ∀ {t : qS}, qRun n la co P bd k (qS0 n P) t → ∀ m ∈ t.2.1, qWf n m := by
  induction k with
  | zero => intro t h m hm; rw [h] at hm; cases hm
  | succ k ih =>
    intro t h m hm
    obtain ⟨u, u1, u2⟩ := h
    have hI := (qRun_I hA k qS0_I u1).1
    obtain ⟨b, p0, T, e1, e2, e3⟩ := u2
    have hb := hA.2 b e1.1.1 e1.1.2
    subst e3
    rcases List.mem_append.mp hm with h | h
    · exact ih u1 m h
    · exact qFC_wf e1.1 hI.2.2.2.1 (by rw [← e2]; exact hb.2.2.2) m h
theorem qPlan_wf {n : Int} {la co : Int → Int} {P : Int → List (Int × Int)} {bd : Int} {C : List qC} (hA : qAll n la co P) (h : qPlan n la co P bd C) : ∀ m ∈ C, qWf n m := by
  obtain ⟨k, s, r, _, e⟩ := h
  intro m hm
  rw [e] at hm
  rcases List.mem_append.mp hm with h | h
  · exact qRun_wf hA k r m h
  · rw [List.mem_singleton.mp h]
    exact qWf_k (by omega)
theorem qSum_nil {g : qC → Int} : qSum g [] = 0 := rfl
theorem qSum_app2 {g : qC → Int} {A B : List qC} : qSum g (A ++ B) = qSum g A + qSum g B := by
  have key : ∀ (B : List qC) (s : Int), B.foldl (fun s m => s + g m) s = s + B.foldl (fun s m => s + g m) 0 := by
    intro B
    induction B with
    | nil => intro s; show s = s + 0; omega
    | cons m B ih =>
      intro s
      show B.foldl _ (s + g m) = s + B.foldl _ (0 + g m)
      rw [ih (s + g m), ih (0 + g m)]
      omega
  unfold qSum
  rw [List.foldl_append, key B]
theorem qSum_cons {g : qC → Int} {m : qC} {B : List qC} : qSum g (m :: B) = g m + qSum g B := by
  have := qSum_app2 (g := g) (A := [m]) (B := B)
  have e : qSum g [m] = g m := by show 0 + g m = g m; omega
  rw [e] at this
  exact this
theorem qSum_b {g : qC → Int} {M : Int} {C : List qC} (hM : 0 ≤ M) (h : ∀ m ∈ C, 0 ≤ g m ∧ g m ≤ M) : 0 ≤ qSum g C ∧ qSum g C ≤ M * (C.length : Int) := by
  induction C with
  | nil => rw [qSum_nil]; exact ⟨Int.le_refl _, Int.mul_nonneg hM (Int.natCast_nonneg _)⟩
  | cons m C ih =>
    have h1 := h m (List.mem_cons.mpr (Or.inl rfl))
    have h2 := ih (fun x hx => h x (List.mem_cons.mpr (Or.inr hx)))
    rw [qSum_cons, List.length_cons, show ((C.length + 1 : Nat) : Int) = (C.length : Int) + 1 by omega, Int.mul_add, Int.mul_one]
    omega
theorem qPc_b {n : Int} {m : qC} (h : qWf n m) : 1 ≤ qPc m ∧ qPc m ≤ 4 := by
  obtain ⟨h1, h2, h3, h4, h5, h6⟩ := h
  unfold qPc
  have hg := qG_e m.2.1 m.2.2.1
  split
  · rename_i z
    have := (h5 (by omega)).2
    omega
  · omega
theorem qMv_pc {f : Int} {p q : Int × Int} (hp : qBox p) (hq : qBox q) : qSum qPc (qMv f p q) ≤ 1 + 3 * qJmp p q := by
  have hd := qBox_d hp hq
  have hg := qG_e (q.1 - p.1) (q.2 - p.2)
  have hj := qJmp_b (p := p) (q := q)
  unfold qMv
  split
  · rw [qSum_nil]; omega
  · rw [qSum_cons, qSum_nil]
    unfold qPc qJmp
    show (if (if qG (q.1 - p.1) (q.2 - p.2) ≤ 12 then (0 : Int) else 1) = 1 then (qG (q.1 - p.1) (q.2 - p.2) + 11) / 12 else 1) + 0 ≤ 1 + 3 * (if qG (q.1 - p.1) (q.2 - p.2) ≤ 12 then 0 else 1)
    by_cases z : qG (q.1 - p.1) (q.2 - p.2) ≤ 12
    · rw [if_pos z, if_neg (by decide)]
      omega
    · rw [if_neg z, if_pos rfl]
      omega
theorem qSew_pc {f : Int} {p : Int × Int} {L : List (Int × Int)} (hp : qBox p) (hL : ∀ q ∈ L, qBox q) : qSum qPc (qSew f p L) ≤ (L.length : Int) + 3 * qJ p L := by
  induction L generalizing p with
  | nil => show (0 : Int) ≤ 0 + 3 * 0; omega
  | cons q L ih =>
    have hq := hL q (List.mem_cons.mpr (Or.inl rfl))
    have h1 := qMv_pc (f := f) hp hq
    have h2 := ih hq (fun r hr => hL r (List.mem_cons.mpr (Or.inr hr)))
    show qSum qPc (qMv f p q ++ qSew f q L) ≤ ((L.length + 1 : Nat) : Int) + 3 * (qJmp p q + qJ q L)
    rw [qSum_app2]
    omega
theorem qFC_pc {now c b f : Int} {p p0 : Int × Int} {T : List (Int × Int)} (hp : qBox p) (hT : ∀ q ∈ p0 :: T, qBox q) (hl : (p0 :: T).length ≤ 2078) (hJ : qJ p (p0 :: T) ≤ 264) : qSum qPc (qFC now c b f p p0 T) ≤ 2875 := by
  have h0 := hT p0 (List.mem_cons.mpr (Or.inl rfl))
  have hs := qSew_pc (f := f) h0 (fun q hq => hT q (List.mem_cons.mpr (Or.inr hq)))
  have hj := qJmp_b (p := p) (q := p0)
  replace hJ : qJmp p p0 + qJ p0 T ≤ 264 := hJ
  rw [List.length_cons] at hl
  have h1 : qSum qPc (if now = -1 ∨ now = c then ([] : List qC) else [(3, 0, 0, -1)]) ≤ 1 := by split <;> decide
  have h2 : qSum qPc (if qSq p p0 ≤ b * b then ([] : List qC) else [(2, 0, 0, -1)]) ≤ 1 := by split <;> decide
  have h3 : qSum qPc (qGo f p p0) ≤ 4 := by
    unfold qGo
    split
    · decide
    · rw [qSum_cons, qSum_nil]
      have hd := qBox_d hp h0
      have hg := qG_e (p0.1 - p.1) (p0.2 - p.2)
      unfold qPc
      rw [if_pos rfl]
      show (qG (p0.1 - p.1) (p0.2 - p.2) + 11) / 12 + 0 ≤ 4
      omega
  unfold qFC
  rw [qSum_app2, qSum_app2, qSum_app2]
  omega
theorem qRun_pc {n : Int} {la co : Int → Int} {P : Int → List (Int × Int)} {bd : Int} (hA : qAll n la co P) (hJ : ∀ i, 0 ≤ i → i < n → ∀ p, qJ p (P i) ≤ 264) (k : Nat) : ∀ {t : qS}, qRun n la co P bd k (qS0 n P) t → qSum qPc t.2.1 ≤ 2875 * k := by
  induction k with
  | zero => intro t h; rw [h]; exact Int.le_refl _
  | succ k ih =>
    intro t h
    obtain ⟨u, u1, u2⟩ := h
    have hI := (qRun_I hA k qS0_I u1).1
    obtain ⟨b, p0, T, e1, e2, e3⟩ := u2
    have hb := hA.2 b e1.1.1 e1.1.2
    have hj := hJ b e1.1.1 e1.1.2 u.2.2.1
    rw [e2] at hb hj
    have h1 := ih u1
    have h2 := qFC_pc (now := u.2.2.2) (c := co b) (b := bd) (f := b) hI.2.2.2.1 hb.2.2.2 hb.2.2.1 hj
    subst e3
    show qSum qPc (u.2.1 ++ qFC u.2.2.2 (co b) bd b u.2.2.1 p0 T) ≤ 2875 * ((k + 1 : Nat) : Int)
    rw [qSum_app2]
    omega
theorem qPlan_pc {n : Int} {la co : Int → Int} {P : Int → List (Int × Int)} {bd : Int} {C : List qC} (hA : qAll n la co P) (hJ : ∀ i, 0 ≤ i → i < n → ∀ p, qJ p (P i) ≤ 264) (h : qPlan n la co P bd C) : qSum qPc C ≤ 23001 := by
  obtain ⟨k, s, r, _, e⟩ := h
  have h1 := qRun_pc hA hJ k r
  obtain ⟨hI, hc⟩ := qRun_I hA k qS0_I r
  have z : ∀ W : Int → Int, (∀ i, W i = 0 ∨ W i = 1) → 0 ≤ qCW W ∧ qCW W ≤ 8 := by
    intro W h01
    have x0 := h01 0
    have x1 := h01 1
    have x2 := h01 2
    have x3 := h01 3
    have x4 := h01 4
    have x5 := h01 5
    have x6 := h01 6
    have x7 := h01 7
    unfold qCW
    omega
  have z1 := z s.1 hI.1
  have z2 := z (qS0 n P).1 (qS0_I (n := n) (P := P)).1
  rw [e, qSum_app2, qSum_cons, qSum_nil]
  have : qPc (4, 0, 0, -1) = 1 := by decide
  omega
theorem qThr_b {n : Int} {col : Int → Int} {c : Int} {m : qC} (h : qWf n m) : 0 ≤ qThr col c m ∧ qThr col c m ≤ 255 := by
  obtain ⟨h1, h2, h3, h4, h5, h6⟩ := h
  unfold qThr
  split
  · rename_i z
    have hg := qG_e m.2.1 m.2.2.1
    have := h4 z.1
    have e1 := qSqr (d := m.2.1) (D := 12) (by omega)
    have e2 := qSqr (d := m.2.2.1) (D := 12) (by omega)
    have := pE_root (v := 100 * (m.2.1 * m.2.1 + m.2.2.1 * m.2.2.1)) (by omega)
    omega
  · omega
theorem qIsK_b {k : Int} {m : qC} : 0 ≤ qIsK k m ∧ qIsK k m ≤ 1 := by
  unfold qIsK
  split <;> omega
theorem qRow_mem {α : Type} {a : Int → α} {n : Int} {l : List α} (h : qRow a n l) {i : Int} (h0 : 0 ≤ i) (h1 : i < n) : a i ∈ l := List.mem_iff_getElem?.mpr ⟨i.toNat, qRow_at h h0 h1⟩
