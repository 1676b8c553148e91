/-! PURE 21: the reference's answers about a language -/
/-- how many words of a length -/
noncomputable def cln (G : zGr) (ax : List Int) (n : Int) : Int := (cnt (fun y => lcA G ax y ∧ ln y = n) 29524 : Nat)
/-- the quotient that both sides compute -/
def dens (a n : Int) : UInt64 := FP.ddiv (FP.i2d (zi a)) (FP.i2d (zi (p3 n)))
