/-! PURE 45: the law's steps: queries about the language -/
def mn3 (cur : Int) (A F : Prop) (ca cf : Int) (W : Int → Prop) (c v k : Int) : Prop := k = cur ∧ ((¬ A ∧ c = ca) ∨ (A ∧ ¬ F ∧ c = cf) ∨ (A ∧ F ∧ c = 0 ∧ W v))
theorem mn3.of {cur : Int} {A F : Prop} {ca cf : Int} {W : Int → Prop} {c v : Int} (h1 : ¬ A → c = ca) (h2 : A → ¬ F → c = cf) (h3 : A → F → c = 0 ∧ W v) : mn3 cur A F ca cf W c v cur := by
  refine ⟨rfl, ?_⟩
  by_cases a : A
  · by_cases f : F
    · exact Or.inr (Or.inr ⟨a, f, h3 a f⟩)
    · exact Or.inr (Or.inl ⟨a, f, h2 a f⟩)
  · exact Or.inl ⟨a, h1 a⟩
def V3 (cur : Int) (A F : Prop) (ea ef : Nat) (W : Int → Prop) (r : Nat ⊕ Int) (k : Int) : Prop := k = cur ∧ ((¬ A ∧ r = .inl ea) ∨ (A ∧ ¬ F ∧ r = .inl ef) ∨ (A ∧ F ∧ ∃ v, r = .inr v ∧ W v))
theorem tv_u {X : Prop} {v v2 : Int} (h : tv v X) (i : tv v2 X) : v = v2 := by
  rcases h with ⟨a, b⟩ | ⟨a, b⟩
  · rcases i with ⟨c, d⟩ | ⟨c, d⟩
    · omega
    · exact absurd b d
  · rcases i with ⟨c, d⟩ | ⟨c, d⟩
    · exact absurd d b
    · omega
section
variable {B : Int} {G : zGr} {ax : List Int} {cur : Int} {R : zRst} {M : zM} {S : zS} {ln v5 : Int} {scr : Int → Int} {P : (Int × zM × zS) ⊕ (zM × zS) → Prop}
theorem pos_place {M1 : zM} {S : zS} (b2 : clsW B G ax cur R M1 S) (hL : lang1 G ax M1) : F_X3_placeOf (M1 1 8) M1 S = some (M1 13 cur - 1) ∧ (lcA G ax cur → M1 13 cur - 1 = pos (lcA G ax) cur ∧ 0 ≤ pos (lcA G ax) cur ∧ pos (lcA G ax) cur < 300) ∧ (¬ lcA G ax cur → M1 13 cur - 1 = -1) := by
  have hw := b2.2.1.2.2
  have h4 := hL.2.2.2.1 cur hw
  have hp : lcA G ax cur → 0 ≤ pos (lcA G ax) cur ∧ pos (lcA G ax) cur < 300 := fun q => by
    have := pos_lt hw q
    have := hL.2.1
    omega
  rw [b2.2.2.2.2.2.1]
  refine ⟨FX3_placeOf b2.1 hw ?_, fun q => ⟨by rw [h4.1 q]; omega, hp q⟩, fun q => by rw [h4.2 q]; rfl⟩
  by_cases q : lcA G ax cur
  · rw [h4.1 q]; have := hp q; omega
  · rw [h4.2 q]; omega
end
