theorem qFB_congr {cx cy : Int → Int} {c de : Int} {a b : Int → Int} (h : ∀ v, 0 ≤ v → v < 1024 → a v = b v) : qSm (qFB cx cy c de a) 0 32 = qSm (qFB cx cy c de b) 0 32 := by
  have key : ∀ n : Nat, (n : Int) ≤ 32 → qSm (qFB cx cy c de a) 0 n = qSm (qFB cx cy c de b) 0 n := by
    intro n
    induction n with
    | zero => intro _; rw [show ((0 : Nat) : Int) = 0 from rfl, qSm_nil (Int.le_refl _), qSm_nil (Int.le_refl _)]
    | succ n ih =>
      intro hn
      rw [show ((n + 1 : Nat) : Int) = (n : Int) + 1 by omega, qSm_s (by omega), qSm_s (by omega), ih (by omega)]
      congr 1
      unfold qFB
      have := qCt_congr (a := qRB (qCr cx cy c n) a n de) (b := qRB (qCr cx cy c n) b n de) 32 (fun x x0 x1 => by
        unfold qRB
        have e : qNrB a x n de = qNrB b x n de := by
          apply Bool.eq_iff_iff.mpr
          unfold qNrB
          rw [qAny_iff, qAny_iff]
          constructor
          · intro ⟨i, h1, h2, h3⟩
            have := of_decide_eq_true h3
            rw [h (32 * i + x) (by omega) (by omega)] at this
            exact ⟨i, h1, h2, decide_eq_true this⟩
          · intro ⟨i, h1, h2, h3⟩
            have := of_decide_eq_true h3
            rw [← h (32 * i + x) (by omega) (by omega)] at this
            exact ⟨i, h1, h2, decide_eq_true this⟩
        rw [e])
      exact this
  exact key 32 (by omega)
