/-! PURE 29: the best derivation, and how the class finds it -/
/-- the next insertion of the best derivation, from a word y that is j + 1 insertions away -/
def nxt (G : zGr) (cur : Int) (j : Nat) (y : Int) (r : Nat) : Prop := insP G y r ∧ pth G j (insV G y r) cur ∧ (∀ m : Nat, pth G m y cur → j + 1 ≤ m) ∧ ∀ r2, r2 < r → insP G y r2 → ¬ pth G j (insV G y r2) cur
