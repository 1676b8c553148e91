/-! PURE 52: steps that change more than the word: text, arrays -/
def zAbs : Type := zGr × List Int × Int × zRst
noncomputable def clsA (B : Int) (a : zAbs) (M : zM) (S : zS) : Prop := clsW B a.1 a.2.1 a.2.2.1 a.2.2.2 M S
noncomputable def clsY (B : Int) (S : zS) (M : zM) (V : (Nat ⊕ Unit) → zAbs → Prop) (r : (Nat ⊕ Unit) × zM × zS) : Prop := ∃ a, clsA B a r.2.1 r.2.2 ∧ keepM S M r.2.1 ∧ V r.1 a
theorem clsW.rest {B : Int} {G : zGr} {ax : List Int} {cur : Int} {R R1 : zRst} {M M1 : zM} {S : zS} {A : Nat → Prop} (h : clsW B G ax cur R M S) (hf : cfr A S M M1) (hA : ∀ b, A b → b = 2 ∨ b = 3 ∨ (42 ≤ b ∧ b ≤ 47)) (e1 : R1.1 = R.1) (e3 : R1.2.2.1 = R.2.2.1) (ht : M1 2 3 = (R1.2.1.length : Int) ∧ R1.2.1.length ≤ 60 ∧ rowl (M1 3) R1.2.1 ∧ ∀ c ∈ R1.2.1, 0 ≤ c ∧ c < 65536) (hs : sltC R1.2.2.2 M1) : clsW B G ax cur R1 M1 S ∧ keepM S M M1 := by
  obtain ⟨a1, a2, a3, a4, a5, a6, a7, a8, r1, r2, r3, r4⟩ := h
  have e : ∀ b : Nat, b ≤ 41 → b ≠ 2 → b ≠ 3 → M1 b = M b := fun b q1 q2 q3 => hf.1 b (fun a => by have := hA b a; omega) (Or.inl (by omega))
  refine ⟨⟨a1, a2, a3.fr hf (fun a => by have := hA 5 a; omega), a4, ?_, ?_, a7.fr (by rw [e 1 (by decide) (by decide) (by decide)]) (fun b hb => e b (by have := hb.2; omega) (by have := hb.1; omega) (by have := hb.1; omega)), a8.fr (e 25 (by decide) (by decide) (by decide)) (e 26 (by decide) (by decide) (by decide)) (e 27 (by decide) (by decide) (by decide)), ?_, ht, ?_, hs⟩, keepM.of hf (fun b a => by have := hA b a; omega)⟩
  · unfold axC; rw [e 5 (by decide) (by decide) (by decide), e 6 (by decide) (by decide) (by decide)]; exact a5
  · rw [e 1 (by decide) (by decide) (by decide)]; exact a6
  · rw [e1]
    unfold savC gS axS at *
    rw [e 1 (by decide) (by decide) (by decide), e 8 (by decide) (by decide) (by decide), e 9 (by decide) (by decide) (by decide)]
    rcases r1 with b | ⟨b1, G1, ax1, cur1, b2, b3, ⟨c1, c2, c3, c4⟩, b5⟩
    · exact Or.inl b
    · exact Or.inr ⟨b1, G1, ax1, cur1, b2, b3, ⟨c1, c2, c3, fun j L R pr q => hf.2 _ _ _ _ (c4 j L R pr q)⟩, b5⟩
  · rw [e 1 (by decide) (by decide) (by decide), e3]; exact r3
theorem mdlW.rest {G : zGr} {ax : List Int} {cur : Int} {R R1 : zRst} {M M1 : zM} (h : mdlW G ax cur R M) (hf : mfr (fun b => b = 54 ∨ b = 67 ∨ b = 68 ∨ b = 69) (fun k => k = 0 ∨ k = 11) M M1) (e1 : R1.1 = R.1) (e3 : R1.2.2.1 = R.2.2.1) (ht : M1 48 11 = (R1.2.1.length : Int) ∧ ∀ (i : Nat) (c : Int), R1.2.1[i]? = some c → M1 54 i = c) (hs : sltM R1.2.2.2 M1) : mdlW G ax cur R1 M1 ∧ keepC M M1 := by
  obtain ⟨h1, h2, h3, r1, r2, r3, r4⟩ := h
  have e : ∀ k : Int, k ≠ 0 → k ≠ 11 → k ≠ 20 → k ≠ 21 → M1 48 k = M 48 k := fun k a b d f => hf.2 k (by omega) d f
  have eb : ∀ b : Nat, b = 49 ∨ (70 ≤ b ∧ b ≤ 75) → M1 b = M b := fun b a => hf.1 b (by omega) (by omega) (by omega) (by omega)
  refine ⟨⟨h1.fr hf ⟨by omega, by omega, by omega, by omega⟩ ⟨by omega, by omega, by omega⟩, h2.fr hf (by omega) (by omega), by rw [e 29 (by decide) (by decide) (by decide) (by decide)]; exact h3, ?_, ht, ?_, hs⟩, keepC.of hf (fun b q => by omega)⟩
  · rw [e1]
    unfold savM at *
    rw [e 37 (by decide) (by decide) (by decide) (by decide), eb 70 (by decide), eb 71 (by decide), eb 72 (by decide), eb 73 (by decide), eb 74 (by decide), eb 75 (by decide)]
    exact r1
  · rw [e 14 (by decide) (by decide) (by decide) (by decide), e3]; exact r3
