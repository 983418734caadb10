/-! ===== what is asked of commands ===== -/
def qCl (n : Int) (la co : Int → Int) (P : Int → List (Int × Int)) (bd pl : Int) (dr : Int → Int) (xs ys : Int → Int → Int) (sz k x y o kc th : Int → Int) (m : Int) (sec : UInt32) : Prop := qDr n P dr xs ys sz ∧ (pl = 0 ∨ (pl = 1 ∧ qHas n la co P bd k x y o kc th m sec))
def qMl (n : Int) (la co : Int → Int) (P : Int → List (Int × Int)) (bd kn : Int) (k x y o : Int → Int) (nc : Int) : Prop := kn = 0 ∨ (kn = 1 ∧ mHas n la co P bd k x y o nc)
/-- the fields, as both hold them -/
abbrev qSt (n bd : Int) (la co cl cc : Int → Int) (fx fy : Int → Int → Int) (de le sh pu un mcol mla mic mco mcX mcY mde mlo msh mpu mhu : Int → Int) : Prop := qLC n la co ∧ qFds n cl cc fx fy de le sh pu un ∧ qMoA n la co cl cc fx fy de le sh pu un mcol mla mic mco mcX mcY mde mlo msh mpu mhu ∧ (0 ≤ bd ∧ bd ≤ 100)
/-- the commands that both hold -/
abbrev qBoth (n bd : Int) (la co : Int → Int) (P : Int → List (Int × Int)) (C : List qC) : Prop := qPlan n la co P bd C ∧ C.length ≤ 16641 ∧ (∀ m ∈ C, qWf n m) ∧ qSum qPc C ≤ 23001
theorem qSec_take {C : List qC} {k x y o : Int → Int} {n i : Int} (h : qCm k x y o n C) (h0 : 0 ≤ i) (h1 : i < n) : qSec (C.take (i.toNat + 1)) = FP.fadd (qSec (C.take i.toNat)) (qSecM (k i, x i, y i, o i)) := by
  rw [qRow_take h h0 h1, qSec_app]
theorem qSum_take {g : qC → Int} {C : List qC} {k x y o : Int → Int} {n i : Int} (h : qCm k x y o n C) (h0 : 0 ≤ i) (h1 : i < n) : qSum g (C.take (i.toNat + 1)) = qSum g (C.take i.toNat) + g (k i, x i, y i, o i) := by
  rw [qRow_take h h0 h1, qSum_app]
/-- a loop over commands that sums -/
theorem zlp_sum {body : Int × Int → Option ((Int × Int) ⊕ (Int × Int))} {g : qC → Int} {C : List qC} {k x y o : Int → Int} {n : Int} (h : qCm k x y o n C) (hn : n ≤ 16641)
    (hs : ∀ a j, 0 ≤ j → j < n → a = qSum g (C.take j.toNat) → body (a, j) = some (.inl (a + g (k j, x j, y j, o j), j + 1))) (he : ∀ a, body (a, n) = some (.inr (a, n))) : zlp body zFU (0, 0) = some (qSum g C, n) := by
  have hn0 := qRow_nn h
  have H : ∃ q, zlp body zFU (0, 0) = some q ∧ (q.1 = qSum g C ∧ q.2 = n) := by
    refine zlp_for (fun s : Int × Int => s.2) (lo := 0) (hi := n) (fun j s => s.1 = qSum g (C.take j.toNat)) _ hn0 (by omega) ?_ ?_ (0, 0) rfl rfl
    · intro s h0 h1 hR
      obtain ⟨a, j⟩ := s
      replace h0 : 0 ≤ j := h0
      replace h1 : j < n := h1
      replace hR : a = qSum g (C.take j.toNat) := hR
      refine ⟨_, hs a j h0 h1 hR, rfl, ?_⟩
      show a + g (k j, x j, y j, o j) = qSum g (C.take (j + 1).toNat)
      rw [show (j + 1).toNat = j.toNat + 1 by omega, qSum_take h h0 h1, hR]
    · intro s h0 hR
      obtain ⟨a, j⟩ := s
      replace h0 : j = n := h0
      subst h0
      replace hR : a = qSum g (C.take j.toNat) := hR
      rw [qRow_all h] at hR
      exact ⟨_, he a, hR, rfl⟩
  obtain ⟨⟨a, j⟩, e, h1, h2⟩ := H
  replace h1 : a = qSum g C := h1
  replace h2 : j = n := h2
  rw [e, h1, h2]
theorem qSum_tb {g : qC → Int} {n M : Int} {C : List qC} (hM : 0 ≤ M) (h : ∀ m ∈ C, 0 ≤ g m ∧ g m ≤ M) (hl : C.length ≤ 16641) (i : Nat) : 0 ≤ qSum g (C.take i) ∧ qSum g (C.take i) ≤ M * 16641 := by
  have h1 := qSum_b (C := C.take i) hM (fun m hm => h m (List.mem_of_mem_take hm))
  have h2 : (C.take i).length ≤ C.length := by rw [List.length_take]; omega
  have h3 := Int.mul_le_mul_of_nonneg_left (show ((C.take i).length : Int) ≤ 16641 by omega) hM
  omega
theorem pE_told {k x y o : Int → Int} {j a : Int} (hj : 0 ≤ j ∧ j < 16641) (ha : 0 ≤ a ∧ a ≤ 3) : f_X3_told k x y o j a = some (if a = 0 then k j else if a = 1 then x j else if a = 2 then y j else o j) := by
  unfold f_X3_told
  by_cases a0 : a = 0
  · subst a0
    simp (disch := omega) only [zck_t, if_pos, if_neg, if_true]
  · by_cases a1 : a = 1
    · subst a1
      simp (disch := omega) only [zck_t, if_pos, if_neg, if_true]
    · by_cases a2 : a = 2
      · subst a2
        simp (disch := omega) only [zck_t, if_pos, if_neg, if_true]
      · simp (disch := omega) only [zck_t, if_pos, if_neg]
