/-- the model's numbers of a field -/
abbrev qMo (f col c : Int) (cx cy : Int → Int) (de le sh pu un : Int) (co cX cY ic de' lo sh' pu' hu : Int → Int) : Prop := qCor f c cx cy co cX cY ∧ ic f = col ∧ de' f = de ∧ lo f = le ∧ sh' f = sh ∧ pu' f = pu ∧ hu f = un
