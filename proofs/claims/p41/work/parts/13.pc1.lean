/-! PURE 28: the reference: how far a word is from the current one -/
def pth (G : zGr) : Nat → Int → Int → Prop
  | 0, y, z => y = z
  | n + 1, y, z => ∃ r : Nat, insP G y r ∧ pth G n (insV G y r) z
