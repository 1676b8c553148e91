/-! PURE 33: normal forms: the reference -/
def rdc (G : zGr) (x y : Int) : Prop := ∀ P : Int → Prop, P x → (∀ z r, P z → redP G z r → P (redV G z r)) → P y
theorem rdc.self {G : zGr} {x : Int} : rdc G x x := fun _ h _ => h
theorem rdc.step {G : zGr} {x y : Int} {r : Nat} (h : rdc G x y) (hp : redP G y r) : rdc G x (redV G y r) := fun P a b => b y r (h P a b) hp
theorem rdc.trans {G : zGr} {x y z : Int} (h : rdc G x y) (i : rdc G y z) : rdc G x z := i (fun u => rdc G x u) h (fun _ _ a hp => a.step hp)
theorem rdc.last {G : zGr} {x y : Int} (h : rdc G x y) : y = x ∨ ∃ z r, rdc G x z ∧ redP G z r ∧ redV G z r = y := h (fun u => u = x ∨ ∃ z r, rdc G x z ∧ redP G z r ∧ redV G z r = u) (Or.inl rfl) (fun z r a hp => Or.inr ⟨z, r, by
  rcases a with a | ⟨z2, r2, a1, a2, a3⟩
  · rw [a]; exact rdc.self
  · rw [← a3]; exact a1.step a2, hp, rfl⟩)
def nf (G : zGr) (y : Int) : Prop := ∀ r, ¬ redP G y r
def nfs (G : zGr) (x y : Int) : Prop := rdc G x y ∧ nf G y
