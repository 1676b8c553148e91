/-! PURE 33: normal forms: the reference -/
theorem redV_r {G : zGr} (hG : grok G) {x : Int} {r : Nat} (h : redP G x r) : wd (redV G x r) ∧ ln (redV G x r) < ln x ∧ ln x ≤ G.1 ∧ r < 100 * G.2.2.length := by
  obtain ⟨L, R, pr, h1, h2, h3, h4, h5⟩ := h
  have hc := (hG.2.2.2 _ (List.mem_of_getElem? h1)).1
  dsimp only at hc
  have hL := ln_cx hc
  have hR := ln_b R
  have e : cxg G r = (L, R, pr) := by unfold cxg; rw [h1]; rfl
  have hlt := (List.getElem?_eq_some_iff.mp h1).1
  have ht := tkw_r (x := x) (L := L) (R := R) (s := rs r) (e := re r) (by omega) hR.1 (by unfold rs; omega) h2 h3
  unfold redV
  rw [e]
  exact ⟨ht.2, by have := ht.1; dsimp only; omega, h4, by omega⟩
def rdc (G : zGr) (x y : Int) : Prop := ∀ P : Int → Prop, P x → (∀ z r, P z → redP G z r → P (redV G z r)) → P y
theorem rdc.self {G : zGr} {x : Int} : rdc G x x := fun _ h _ => h
theorem rdc.step {G : zGr} {x y : Int} {r : Nat} (h : rdc G x y) (hp : redP G y r) : rdc G x (redV G y r) := fun P a b => b y r (h P a b) hp
theorem rdc.trans {G : zGr} {x y z : Int} (h : rdc G x y) (i : rdc G y z) : rdc G x z := i (fun u => rdc G x u) h (fun _ _ a hp => a.step hp)
theorem rdc.last {G : zGr} {x y : Int} (h : rdc G x y) : y = x ∨ ∃ z r, rdc G x z ∧ redP G z r ∧ redV G z r = y := h (fun u => u = x ∨ ∃ z r, rdc G x z ∧ redP G z r ∧ redV G z r = u) (Or.inl rfl) (fun z r a hp => Or.inr ⟨z, r, by
  rcases a with a | ⟨z2, r2, a1, a2, a3⟩
  · rw [a]; exact rdc.self
  · rw [← a3]; exact a1.step a2, hp, rfl⟩)
theorem rdc.first {G : zGr} {x y : Int} (h : rdc G x y) : y = x ∨ ∃ r, redP G x r ∧ rdc G (redV G x r) y := h (fun u => u = x ∨ ∃ r, redP G x r ∧ rdc G (redV G x r) u) (Or.inl rfl) (fun z r a hp => by
  rcases a with a | ⟨r2, a1, a2⟩
  · subst a; exact Or.inr ⟨r, hp, rdc.self⟩
  · exact Or.inr ⟨r2, a1, a2.step hp⟩)
def nf (G : zGr) (y : Int) : Prop := ∀ r, ¬ redP G y r
def nfs (G : zGr) (x y : Int) : Prop := rdc G x y ∧ nf G y
