/-- the five settings of the fields -/
abbrev pSet (n : Int) (de le sh pu un mde mle msh mpu mun : Int → Int) : Prop := pEq n 1 8 de mde ∧ pEq n 1 12 le mle ∧ pEq n 0 11 sh msh ∧ pEq n 0 3 pu mpu ∧ pEq n 0 1 un mun
