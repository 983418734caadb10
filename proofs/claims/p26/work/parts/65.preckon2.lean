/-! ===== the model's plan, made or kept ===== -/
def mHas (n : Int) (la co : Int → Int) (P : Int → List (Int × Int)) (bd : Int) (k x y o : Int → Int) (nc : Int) : Prop := ∃ C, qPlan n la co P bd C ∧ C.length ≤ 16641 ∧ qCm k x y o nc C
