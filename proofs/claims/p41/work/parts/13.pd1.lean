/-! PURE 37: the class: the normal forms of a word -/
/-- the search on its way: V are marked, the forms among W are in the list -/
def vst (G : zGr) (S : zS) (x0 s : Int) (V W : Int → Prop) (M : zM) : Prop := gC M S G ∧ M 25 4 = s ∧ (∀ y, wd y → (M 27 y = s ↔ V y) ∧ M 27 y ≤ s) ∧ (∀ y, V y → rdc G x0 y) ∧ (∀ y, W y → V y) ∧ ∃ ws : List Int, rowl (M 26) ws ∧ M 25 1 = (ws.length : Int) ∧ ws.Pairwise (· < ·) ∧ ∀ y, y ∈ ws ↔ W y ∧ nf G y
theorem vst.congr {G : zGr} {S : zS} {x0 s : Int} {V W V1 W1 : Int → Prop} {M : zM} (h : vst G S x0 s V W M) (i : ∀ y, V y ↔ V1 y) (j : ∀ y, nf G y → (W y ↔ W1 y)) (k : ∀ y, W1 y → V1 y) : vst G S x0 s V1 W1 M := by
  obtain ⟨h1, h2, h3, h4, h5, ws, h6, h7, h8, h9⟩ := h
  refine ⟨h1, h2, fun y hy => ⟨(h3 y hy).1.trans (i y), (h3 y hy).2⟩, fun y hy => h4 y ((i y).mpr hy), k, ws, h6, h7, h8, fun y => (h9 y).trans ⟨fun a => ⟨(j y a.2).mp a.1, a.2⟩, fun a => ⟨(j y a.2).mpr a.1, a.2⟩⟩⟩
