/-! PURE 22: the reference's answers about contexts -/
def usd (G : zGr) (ax : List Int) (c : Nat) : Prop := ∃ (x : Int) (r : Nat), lcA G ax x ∧ insP G x r ∧ r / 100 = c
def gen (G : zGr) (ax : List Int) (C : Nat → Prop) : Prop := ∀ y, lcA G ax y → lc G ax C y
/-- the number of bits, as the machine counts them -/
def bcf (z : Int) : Int := (F_J6_bitCount_0f7a4 z).getD 0
/-- the smallest set, the smallest mask of several -/
def minP (G : zGr) (ax : List Int) (m : Int) : Prop := (0 ≤ m ∧ m < (2 : Int) ^ G.2.2.length) ∧ gen G ax (bs m) ∧ ∀ m2 : Int, 0 ≤ m2 → m2 < (2 : Int) ^ G.2.2.length → gen G ax (bs m2) → bcf m < bcf m2 ∨ (bcf m = bcf m2 ∧ m ≤ m2)
