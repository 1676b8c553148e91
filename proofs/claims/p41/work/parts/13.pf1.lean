/-! PURE 52: steps that change more than the word: text, arrays -/
def zAbs : Type := zGr × List Int × Int × zRst
noncomputable def clsA (B : Int) (a : zAbs) (M : zM) (S : zS) : Prop := clsW B a.1 a.2.1 a.2.2.1 a.2.2.2 M S
noncomputable def clsY (B : Int) (S : zS) (M : zM) (V : (Nat ⊕ Unit) → zAbs → Prop) (r : (Nat ⊕ Unit) × zM × zS) : Prop := ∃ a, clsA B a r.2.1 r.2.2 ∧ keepM S M r.2.1 ∧ V r.1 a
