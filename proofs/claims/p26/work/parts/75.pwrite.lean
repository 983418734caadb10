theorem qPl_0 {d j n : Int} : qPl 0 d j n = d * j / n := by
  unfold qPl
  rw [Int.sub_zero, Int.zero_add]
/-- a file, with its format -/
def qFil (ps pf hf mf ml : Int) (pb mb : Int → Int) : Prop := pFile ps pb ml mb ∧ (pf = 0 ∨ pf = 1) ∧ mf = pf ∧ (hf = 0 ∨ hf = 1) ∧ (hf = 0 → ps = 0)
