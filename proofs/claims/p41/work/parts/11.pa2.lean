/-! PURE 11: the reference finds a language -/
def bs (z : Int) (c : Nat) : Prop := z.toNat.testBit c = true
