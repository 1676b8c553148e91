/-! PURE 35: the reference: normal forms counted, the word normalized, confluence -/
noncomputable def nfc (G : zGr) (x : Int) : Nat := cnt (nfs G x) 29524
def conf (G : zGr) (ax : List Int) : Prop := ∀ y, lcA G ax y → ∀ a b, nfs G y a → nfs G y b → a = b
