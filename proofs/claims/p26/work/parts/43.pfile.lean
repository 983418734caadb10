/-- a file as the class and as the model hold it -/
def pFile (n : Int) (pb : Int → Int) (ml : Int) (mb : Int → Int) : Prop := 0 ≤ n ∧ n ≤ 49924 ∧ ml = n ∧ ∀ j, 0 ≤ j → j < n → pb j = mb j ∧ 0 ≤ mb j ∧ mb j ≤ 255
