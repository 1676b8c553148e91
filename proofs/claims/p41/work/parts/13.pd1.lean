/-! PURE 37: the class: the normal forms of a word -/
theorem len_redL {G : zGr} (hG : grok G) {x : Int} : (redL G x).length ≤ 225 := by
  have h2 := frl_225 (redP_8 hG (x := x))
  have h3 := hG.2.2.1
  have h1 : (frl (redP G x) (100 * G.2.2.length)).length ≤ (frl (redP G x) 500).length := frl_mono (by omega)
  unfold redL
  omega
theorem mem_redL {G : zGr} (hG : grok G) {x : Int} {r : Nat} : r ∈ redL G x ↔ redP G x r := by
  unfold redL
  rw [mem_frl]
  exact ⟨fun h => h.2, fun h => ⟨(redV_r hG h).2.2.2, h⟩⟩
theorem redL_nf {G : zGr} (hG : grok G) {x : Int} : (redL G x).length = 0 ↔ nf G x := by
  rw [List.length_eq_zero_iff]
  constructor
  · intro h r hp
    have := (mem_redL hG).mpr hp
    rw [h] at this
    cases this
  · intro h
    refine List.eq_nil_iff_forall_not_mem.mpr (fun r hr => h r ((mem_redL hG).mp hr))
theorem nrow {S : zS} (hF : zFx S) {d : Nat} (hd : d < 10) : zrf S 29 (d : Int) = 30 + d ∧ rowA S (30 + d) := by
  have mk : ∀ a : Nat, zkd S a = 20 ∧ zlen S a = ((225 : Nat) : Int) → a ≤ 89 → a ≠ 5 → rowA S a := fun a h h1 h2 => ⟨h.1, h.2, h1, h2⟩
  rcases (show d = 0 ∨ d = 1 ∨ d = 2 ∨ d = 3 ∨ d = 4 ∨ d = 5 ∨ d = 6 ∨ d = 7 ∨ d = 8 ∨ d = 9 by omega) with e | e | e | e | e | e | e | e | e | e
  · subst e; exact ⟨zFx_rf hF 29 0 rfl, mk 30 (xk hF 30 20 225 rfl) (by decide) (by decide)⟩
  · subst e; exact ⟨zFx_rf hF 29 1 rfl, mk 31 (xk hF 31 20 225 rfl) (by decide) (by decide)⟩
  · subst e; exact ⟨zFx_rf hF 29 2 rfl, mk 32 (xk hF 32 20 225 rfl) (by decide) (by decide)⟩
  · subst e; exact ⟨zFx_rf hF 29 3 rfl, mk 33 (xk hF 33 20 225 rfl) (by decide) (by decide)⟩
  · subst e; exact ⟨zFx_rf hF 29 4 rfl, mk 34 (xk hF 34 20 225 rfl) (by decide) (by decide)⟩
  · subst e; exact ⟨zFx_rf hF 29 5 rfl, mk 35 (xk hF 35 20 225 rfl) (by decide) (by decide)⟩
  · subst e; exact ⟨zFx_rf hF 29 6 rfl, mk 36 (xk hF 36 20 225 rfl) (by decide) (by decide)⟩
  · subst e; exact ⟨zFx_rf hF 29 7 rfl, mk 37 (xk hF 37 20 225 rfl) (by decide) (by decide)⟩
  · subst e; exact ⟨zFx_rf hF 29 8 rfl, mk 38 (xk hF 38 20 225 rfl) (by decide) (by decide)⟩
  · subst e; exact ⟨zFx_rf hF 29 9 rfl, mk 39 (xk hF 39 20 225 rfl) (by decide) (by decide)⟩
/-- the search on its way: V are marked, the forms among W are in the list -/
def vst (G : zGr) (S : zS) (x0 s : Int) (V W : Int → Prop) (M : zM) : Prop := gC M S G ∧ M 25 4 = s ∧ (∀ y, wd y → (M 27 y = s ↔ V y) ∧ M 27 y ≤ s) ∧ (∀ y, V y → rdc G x0 y) ∧ (∀ y, W y → V y) ∧ ∃ ws : List Int, rowl (M 26) ws ∧ M 25 1 = (ws.length : Int) ∧ ws.Pairwise (· < ·) ∧ ∀ y, y ∈ ws ↔ W y ∧ nf G y
theorem vst.congr {G : zGr} {S : zS} {x0 s : Int} {V W V1 W1 : Int → Prop} {M : zM} (h : vst G S x0 s V W M) (i : ∀ y, V y ↔ V1 y) (j : ∀ y, nf G y → (W y ↔ W1 y)) (k : ∀ y, W1 y → V1 y) : vst G S x0 s V1 W1 M := by
  obtain ⟨h1, h2, h3, h4, h5, ws, h6, h7, h8, h9⟩ := h
  refine ⟨h1, h2, fun y hy => ⟨(h3 y hy).1.trans (i y), (h3 y hy).2⟩, fun y hy => h4 y ((i y).mpr hy), k, ws, h6, h7, h8, fun y => (h9 y).trans ⟨fun a => ⟨(j y a.2).mp a.1, a.2⟩, fun a => ⟨(j y a.2).mpr a.1, a.2⟩⟩⟩
