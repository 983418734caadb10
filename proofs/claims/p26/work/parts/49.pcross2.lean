/-! ===== the model's crossings ===== -/
theorem qNx_tmod {c i : Int} (h0 : 0 ≤ i) (h1 : i < c) : Int.tmod (i + 1) c = qNx c i := by
  unfold qNx
  rw [Int.tmod_eq_emod_of_nonneg (by omega)]
  split
  · exact Int.emod_eq_of_lt (by omega) (by omega)
  · rw [show i + 1 = c by omega]
    exact Int.emod_self
/-- the model's corners of a field -/
abbrev qCor (f c : Int) (cx cy co cX cY : Int → Int) : Prop := co f = c ∧ ∀ i, 0 ≤ i → i < c → cX (8 * f + i) = cx i ∧ cY (8 * f + i) = cy i
