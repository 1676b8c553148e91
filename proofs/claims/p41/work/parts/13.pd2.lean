/-! PURE 38: the class: normal forms kept; confluence -/
def fms (G : zGr) (x : Int) (M : zM) : Prop := rowl (M 26) (wl_ (nfs G x)) ∧ M 25 1 = nfc G x
/-- what holds of the class's NormalForms; B bounds the searches so far -/
def nfI (G : zGr) (ax : List Int) (B : Int) (M : zM) : Prop := (0 ≤ M 25 4 ∧ M 25 4 ≤ B) ∧ (∀ y, wd y → M 27 y ≤ M 25 4) ∧ (M 25 2 = -1 ∨ (wd (M 25 2) ∧ fms G (M 25 2) M)) ∧ (M 25 6 = 0 ∨ (M 25 6 = 1 ∧ conf G ax) ∨ (M 25 6 = 2 ∧ ¬ conf G ax))
