/-! ===== whole roots; floats that are no NaN ===== -/
theorem qSq_le {a b : Int} (h : 0 ≤ a) (h2 : a ≤ b) : a * a ≤ b * b := Int.mul_self_le_mul_self h h2
theorem pE_wroot {v : Int} (hv : 0 ≤ v ∧ v ≤ 65000) : ∃ r, f_X6_wholeRoot v = some r ∧ (0 ≤ r ∧ r ≤ 255) ∧ r * r ≤ v ∧ v < (r + 1) * (r + 1) := by
  have H : ∃ r : Int × Int, zlp (fun z => f_X6_wholeRoot_L6 v z.1 z.2) zFU (0, 128) = some r ∧ ((0 ≤ r.1 ∧ r.1 ≤ 255) ∧ r.1 * r.1 ≤ v ∧ v < (r.1 + 1) * (r.1 + 1)) := by
    refine zlp_rule (fun s : Int × Int => ∃ B, s.2 = B / 2 ∧ (B = 256 ∨ B = 128 ∨ B = 64 ∨ B = 32 ∨ B = 16 ∨ B = 8 ∨ B = 4 ∨ B = 2 ∨ B = 1) ∧ 0 ≤ s.1 ∧ s.1 + B ≤ 256 ∧ s.1 * s.1 ≤ v ∧ v < (s.1 + B) * (s.1 + B)) _ (fun s => s.2.toNat) ?_ zFU (0, 128) ?_ ?_
    · intro s hs
      obtain ⟨r, b⟩ := s
      obtain ⟨B, hb, hB, h0, h1, h2, h3⟩ := hs
      have hb : b = B / 2 := hb
      have h0 : 0 ≤ r := h0
      have h1 : r + B ≤ 256 := h1
      have h2 : r * r ≤ v := h2
      have h3 : v < (r + B) * (r + B) := h3
      show (∃ s', f_X6_wholeRoot_L6 v r b = some (.inl s') ∧ _ ∧ _) ∨ ∃ t, f_X6_wholeRoot_L6 v r b = some (.inr t) ∧ _
      unfold f_X6_wholeRoot_L6
      by_cases hz : B = 1
      · subst hz
        refine Or.inr ⟨(r, b), ?_, ⟨h0, by omega⟩, h2, h3⟩
        simp (disch := omega) only [zck_t, if_pos]
      · have ht : (r + b) * (r + b) ≤ 256 * 256 := qSq_le (by omega) (by omega)
        have ht0 : 0 ≤ (r + b) * (r + b) := Int.mul_nonneg (by omega) (by omega)
        by_cases hc : v < (r + b) * (r + b)
        · refine Or.inl ⟨(r, b / 2), ?_, ⟨b, rfl, by omega, h0, by omega, h2, hc⟩, ?_⟩
          · simp (disch := omega) only [zck_t, if_pos, if_neg, zlt]
          · show (b / 2).toNat < b.toNat
            omega
        · refine Or.inl ⟨(r + b, b / 2), ?_, ⟨b, rfl, by omega, ?_, ?_, ?_, ?_⟩, ?_⟩
          · simp (disch := omega) only [zck_t, if_pos, if_neg, zlt]
          · show 0 ≤ r + b
            omega
          · show r + b + b ≤ 256
            omega
          · show (r + b) * (r + b) ≤ v
            omega
          · show v < (r + b + b) * (r + b + b)
            rw [show r + b + b = r + B by omega]
            exact h3
          · show (b / 2).toNat < b.toNat
            omega
    · refine ⟨256, rfl, Or.inl rfl, by decide, by decide, ?_, ?_⟩
      · show (0 : Int) * 0 ≤ v
        omega
      · show v < (0 + 256) * (0 + 256)
        omega
    · have : (1000000000 : Nat) ≤ zFU := zFU_ge rfl
      show (128 : Int).toNat < zFU
      omega
  obtain ⟨⟨r, b⟩, e, h1, h2, h3⟩ := H
  unfold f_X6_wholeRoot
  rw [e]
  exact ⟨r, rfl, h1, h2, h3⟩
theorem qRoot_u {v r t : Int} (hr : 0 ≤ r) (ht : 0 ≤ t) (h1 : r * r ≤ v) (h2 : v < (r + 1) * (r + 1)) (h3 : t * t ≤ v) (h4 : v < (t + 1) * (t + 1)) : r = t := by
  rcases Int.lt_or_le r t with q | q
  · have := qSq_le (a := r + 1) (b := t) (by omega) (by omega)
    omega
  · rcases Int.lt_or_le t r with q2 | q2
    · have := qSq_le (a := t + 1) (b := r) (by omega) (by omega)
      omega
    · omega
def qRoot (v : Int) : Int := (f_X6_wholeRoot v).getD 0
theorem pE_root {v : Int} (hv : 0 ≤ v ∧ v ≤ 65000) : f_X6_wholeRoot v = some (qRoot v) ∧ f_X6_wholeRoot v = some (qRoot v) ∧ 0 ≤ qRoot v ∧ qRoot v ≤ 255 := by
  obtain ⟨r, e, h, -, -⟩ := pE_wroot hv
  have hq : qRoot v = r := by
    unfold qRoot
    rw [e]
    rfl
  rw [hq]
  exact ⟨e, e, h⟩
/-! floats -/
theorem qF32_fin {c : Nat} {q : Int} (hc : c < 16777216) (hq : -149 ≤ q ∧ q ≤ 104) : FP.Core.encode FP.Core.b32 (.fin false c q) ≤ 2139095040 := by
  have e1 : FP.Core.b32.qmin = -149 := by decide +kernel
  have e2 : FP.Core.b32.tails = 8388608 := by decide +kernel
  have e3 : FP.Core.b32.exps = 256 := by decide +kernel
  show (if c < FP.Core.b32.tails then FP.Core.assemble FP.Core.b32 false 0 c else FP.Core.assemble FP.Core.b32 false ((q - FP.Core.b32.qmin).toNat + 1) (c - FP.Core.b32.tails)) ≤ _
  unfold FP.Core.assemble
  rw [e1, e2, e3]
  simp only [Bool.toNat_false, Nat.zero_mul, Nat.zero_add]
  split <;> omega
theorem qF32_settle {c : Nat} {q : Int} (hq : -149 ≤ q) : FP.Core.encode FP.Core.b32 (FP.Core.settle FP.Core.b32 false c q) ≤ 2139095040 := by
  have e1 : FP.Core.b32.qmax = 104 := by decide +kernel
  have e2 : FP.Core.b32.tails = 8388608 := by decide +kernel
  have e3 : 2 ^ FP.Core.b32.p = 16777216 := by decide +kernel
  have e4 : FP.Core.encode FP.Core.b32 (.inf false) = 2139095040 := by decide +kernel
  unfold FP.Core.settle FP.Core.bound
  rw [e1, e2, e3]
  split
  · split
    · exact qF32_fin (by assumption) (by omega)
    · rw [e4]; exact Nat.le_refl _
  · split
    · exact qF32_fin (by decide) (by omega)
    · rw [e4]; exact Nat.le_refl _
theorem qF32_ratio (num den : Nat) (e : Int) : FP.Core.encode FP.Core.b32 (FP.Core.roundRatio FP.Core.b32 false num den e) ≤ 2139095040 := by
  have e1 : FP.Core.b32.qmin = -149 := by decide +kernel
  unfold FP.Core.roundRatio FP.Core.roundAt
  split
  · rw [e1]
    exact qF32_fin (by decide) (by omega)
  · apply qF32_settle
    unfold FP.Core.quantum
    rw [e1]
    exact Int.le_max_left _ _
/-- the datum of a number that is not below 0 -/
def qF32_pos (n : Nat) : Prop := FP.Core.decode FP.Core.b32 n = .inf false ∨ ∃ c q, FP.Core.decode FP.Core.b32 n = .fin false c q
theorem qF32_dec {n : Nat} (h : n ≤ 2139095040) : qF32_pos n := by
  have e2 : FP.Core.b32.tails = 8388608 := by decide +kernel
  have e3 : FP.Core.b32.exps = 256 := by decide +kernel
  unfold qF32_pos FP.Core.decode FP.Core.fieldE FP.Core.fieldT FP.Core.fieldS
  rw [e2, e3]
  have hs : (n / 8388608 / 256 % 2 == 1) = false := by
    have : n / 8388608 / 256 % 2 = 0 := by omega
    rw [this]
    rfl
  rw [hs]
  by_cases h1 : n / 8388608 % 256 = 256 - 1
  · rw [if_pos h1, if_pos (by omega)]
    exact Or.inl rfl
  · rw [if_neg h1]
    by_cases h2 : n / 8388608 % 256 = 0
    · rw [if_pos h2]
      exact Or.inr ⟨_, _, rfl⟩
    · rw [if_neg h2]
      exact Or.inr ⟨_, _, rfl⟩
theorem qF32_round {d : FP.Core.Datum} (h : d = .inf false ∨ ∃ c q, d = .fin false c q) : FP.Core.encode FP.Core.b32 (FP.Core.round FP.Core.b32 d) ≤ 2139095040 := by
  have e4 : FP.Core.encode FP.Core.b32 (.inf false) = 2139095040 := by decide +kernel
  rcases h with h | ⟨c, q, h⟩
  · subst h
    show FP.Core.encode FP.Core.b32 (.inf false) ≤ _
    rw [e4]
    exact Nat.le_refl _
  · subst h
    exact qF32_ratio c 1 q
theorem qF64_fin {c : Nat} {q : Int} (hc : c < 9007199254740992) (hq : -1074 ≤ q ∧ q ≤ 971) : FP.Core.encode FP.Core.b64 (.fin false c q) ≤ 9218868437227405312 := by
  have e1 : FP.Core.b64.qmin = -1074 := by decide +kernel
  have e2 : FP.Core.b64.tails = 4503599627370496 := by decide +kernel
  have e3 : FP.Core.b64.exps = 2048 := by decide +kernel
  show (if c < FP.Core.b64.tails then FP.Core.assemble FP.Core.b64 false 0 c else FP.Core.assemble FP.Core.b64 false ((q - FP.Core.b64.qmin).toNat + 1) (c - FP.Core.b64.tails)) ≤ _
  unfold FP.Core.assemble
  rw [e1, e2, e3]
  simp only [Bool.toNat_false, Nat.zero_mul, Nat.zero_add]
  split <;> omega
theorem qF64_settle {c : Nat} {q : Int} (hq : -1074 ≤ q) : FP.Core.encode FP.Core.b64 (FP.Core.settle FP.Core.b64 false c q) ≤ 9218868437227405312 := by
  have e1 : FP.Core.b64.qmax = 971 := by decide +kernel
  have e2 : FP.Core.b64.tails = 4503599627370496 := by decide +kernel
  have e3 : 2 ^ FP.Core.b64.p = 9007199254740992 := by decide +kernel
  have e4 : FP.Core.encode FP.Core.b64 (.inf false) = 9218868437227405312 := by decide +kernel
  unfold FP.Core.settle FP.Core.bound
  rw [e1, e2, e3]
  split
  · split
    · exact qF64_fin (by assumption) (by omega)
    · rw [e4]; exact Nat.le_refl _
  · split
    · exact qF64_fin (by decide) (by omega)
    · rw [e4]; exact Nat.le_refl _
theorem qF64_ratio (num den : Nat) (e : Int) : FP.Core.encode FP.Core.b64 (FP.Core.roundRatio FP.Core.b64 false num den e) ≤ 9218868437227405312 := by
  have e1 : FP.Core.b64.qmin = -1074 := by decide +kernel
  unfold FP.Core.roundRatio FP.Core.roundAt
  split
  · rw [e1]
    exact qF64_fin (by decide) (by omega)
  · apply qF64_settle
    unfold FP.Core.quantum
    rw [e1]
    exact Int.le_max_left _ _
/-- the datum of a number that is not below 0 -/
def qF64_pos (n : Nat) : Prop := FP.Core.decode FP.Core.b64 n = .inf false ∨ ∃ c q, FP.Core.decode FP.Core.b64 n = .fin false c q
theorem qF64_dec {n : Nat} (h : n ≤ 9218868437227405312) : qF64_pos n := by
  have e2 : FP.Core.b64.tails = 4503599627370496 := by decide +kernel
  have e3 : FP.Core.b64.exps = 2048 := by decide +kernel
  unfold qF64_pos FP.Core.decode FP.Core.fieldE FP.Core.fieldT FP.Core.fieldS
  rw [e2, e3]
  have hs : (n / 4503599627370496 / 2048 % 2 == 1) = false := by
    have : n / 4503599627370496 / 2048 % 2 = 0 := by omega
    rw [this]
    rfl
  rw [hs]
  by_cases h1 : n / 4503599627370496 % 2048 = 2048 - 1
  · rw [if_pos h1, if_pos (by omega)]
    exact Or.inl rfl
  · rw [if_neg h1]
    by_cases h2 : n / 4503599627370496 % 2048 = 0
    · rw [if_pos h2]
      exact Or.inr ⟨_, _, rfl⟩
    · rw [if_neg h2]
      exact Or.inr ⟨_, _, rfl⟩
theorem qF64_round {d : FP.Core.Datum} (h : d = .inf false ∨ ∃ c q, d = .fin false c q) : FP.Core.encode FP.Core.b64 (FP.Core.round FP.Core.b64 d) ≤ 9218868437227405312 := by
  have e4 : FP.Core.encode FP.Core.b64 (.inf false) = 9218868437227405312 := by decide +kernel
  rcases h with h | ⟨c, q, h⟩
  · subst h
    show FP.Core.encode FP.Core.b64 (.inf false) ≤ _
    rw [e4]
    exact Nat.le_refl _
  · subst h
    exact qF64_ratio c 1 q
theorem qF_sum {x y : FP.Core.Datum} (hx : x = .inf false ∨ ∃ c q, x = .fin false c q) (hy : y = .inf false ∨ ∃ c q, y = .fin false c q) : FP.Core.exactSum x y = .inf false ∨ ∃ c q, FP.Core.exactSum x y = .fin false c q := by
  rcases hx with h | ⟨c, q, h⟩ <;> rcases hy with g | ⟨d, r, g⟩ <;> subst h <;> subst g
  · exact Or.inl rfl
  · exact Or.inl rfl
  · exact Or.inl rfl
  · refine Or.inr ⟨(FP.Core.sumUnits false c q false d r (min q r)).natAbs, min q r, ?_⟩
    have hz : FP.Core.sumSign false false (FP.Core.sumUnits false c q false d r (min q r)) = false := by
      unfold FP.Core.sumSign FP.Core.sumUnits FP.Core.signed
      simp only [Bool.false_eq_true, if_false, Bool.and_false]
      split
      · rfl
      · apply decide_eq_false
        omega
    show FP.Core.Datum.fin (FP.Core.sumSign false false _) _ _ = _
    rw [hz]
/-- the bits of a float that is not below 0 and no NaN -/
def qFp (a : UInt32) : Prop := a.toNat ≤ 2139095040
theorem qFp_add {a b : UInt32} (ha : qFp a) (hb : qFp b) : qFp (FP.fadd a b) := by
  have h := qF32_round (qF_sum (qF32_dec ha) (qF32_dec hb))
  show (UInt32.ofNat (FP.Core.encode FP.Core.b32 (FP.Core.round FP.Core.b32 (FP.Core.exactSum (FP.Core.decode FP.Core.b32 a.toNat) (FP.Core.decode FP.Core.b32 b.toNat))))).toNat ≤ _
  rw [UInt32.toNat_ofNat']
  omega
theorem qFp_zn {a : UInt32} (ha : qFp a) : zn32 a := by
  unfold qFp at ha
  show (a &&& 0x7fffffff) ≤ 0x7f800000
  rw [UInt32.le_iff_toNat_le, UInt32.toNat_and]
  have : a.toNat &&& 2147483647 = a.toNat % 2 ^ 31 := Nat.and_two_pow_sub_one_eq_mod a.toNat 31
  show a.toNat &&& 2147483647 ≤ 2139095040
  rw [this]
  omega
theorem qFp_0 : qFp 0 := by unfold qFp; decide
theorem qFp_nan {a : UInt32} (ha : qFp a) : FP.Core.fIsNaN a = false := by
  unfold FP.Core.fIsNaN FP.Core.isNaN
  apply decide_eq_false
  intro h
  rcases qF32_dec ha with g | ⟨c, q, g⟩
  · rw [g] at h; cases h
  · rw [g] at h; cases h
def qFchk (n : Nat) : Bool := match FP.Core.decode FP.Core.b32 (FP.Core.fromInt FP.Core.b32 (n : Int)) with
  | .fin false c _ => (c == 0) == (n == 0)
  | _ => false
theorem qFchk_all : (List.range 1025).all (fun n => qFchk n && decide (FP.Core.fromInt FP.Core.b32 (n : Int) ≤ 2139095040)) = true := by decide +kernel
theorem qFi {n : Int} (h : 0 ≤ n ∧ n ≤ 1024) : ∃ c q, FP.Core.decode FP.Core.b32 (FP.i2f (zI n)).toNat = .fin false c q ∧ (c = 0 ↔ n = 0) := by
  have := List.all_eq_true.mp qFchk_all n.toNat (List.mem_range.mpr (by omega))
  have hn : ((n.toNat : Nat) : Int) = n := by omega
  simp only [Bool.and_eq_true, decide_eq_true_eq] at this
  obtain ⟨h1, h2⟩ := this
  have e : (FP.i2f (zI n)).toNat = FP.Core.fromInt FP.Core.b32 n := by
    show (UInt32.ofNat (FP.Core.fromInt FP.Core.b32 (zI n).toInt)).toNat = _
    rw [zI_toInt (by omega), UInt32.toNat_ofNat']
    rw [hn] at h2
    omega
  rw [e]
  unfold qFchk at h1
  rw [hn] at h1
  split at h1
  · rename_i c q hd
    refine ⟨c, q, hd, ?_⟩
    have h3 : (c == 0) = (n.toNat == 0) := by simpa using h1
    constructor
    · intro hc
      subst hc
      have : (n.toNat == 0) = true := by rw [← h3]; rfl
      have := beq_iff_eq.mp this
      omega
    · intro hc
      have : (c == 0) = true := by rw [h3]; exact beq_iff_eq.mpr (by omega)
      exact beq_iff_eq.mp this
  · cases h1
theorem qFp_div {a b : Int} (ha : 0 ≤ a ∧ a ≤ 1024) (hb : 0 < b ∧ b ≤ 1024) : qFp (FP.fdiv (FP.i2f (zI a)) (FP.i2f (zI b))) ∧ (a = 0 → FP.fdiv (FP.i2f (zI a)) (FP.i2f (zI b)) = 0) := by
  obtain ⟨c, q, e1, h1⟩ := qFi ha
  obtain ⟨d, r, e2, h2⟩ := qFi (n := b) (by omega)
  have hd : d ≠ 0 := fun z => by have := h2.mp z; omega
  have e : FP.fdiv (FP.i2f (zI a)) (FP.i2f (zI b)) = UInt32.ofNat (FP.Core.encode FP.Core.b32 (FP.Core.roundRatio FP.Core.b32 false c d (q - r))) := by
    show UInt32.ofNat (FP.Core.encode FP.Core.b32 (FP.Core.quotient FP.Core.b32 (FP.Core.decode FP.Core.b32 (FP.i2f (zI a)).toNat) (FP.Core.decode FP.Core.b32 (FP.i2f (zI b)).toNat))) = _
    rw [e1, e2]
    show UInt32.ofNat (FP.Core.encode FP.Core.b32 (if d = 0 then _ else FP.Core.roundRatio FP.Core.b32 (false != false) c d (q - r))) = _
    rw [if_neg hd]
    rfl
  rw [e]
  refine ⟨?_, fun z => ?_⟩
  · have h := qF32_ratio c d (q - r)
    unfold qFp
    rw [UInt32.toNat_ofNat']
    omega
  · have hc : c = 0 := h1.mpr z
    subst hc
    show UInt32.ofNat (FP.Core.encode FP.Core.b32 (.fin false 0 FP.Core.b32.qmin)) = 0
    decide +kernel
