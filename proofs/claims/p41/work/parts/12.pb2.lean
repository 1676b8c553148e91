/-! PURE 20: sets of contexts as masks; how contexts follow one another: the reference -/
def msk (z : Int) (P : Nat → Prop) : Prop := 0 ≤ z ∧ z < 32 ∧ ∀ c : Nat, c < 5 → (bs z c ↔ P c)
theorem msk.congr {z : Int} {P Q : Nat → Prop} (h : msk z P) (i : ∀ c, c < 5 → (P c ↔ Q c)) : msk z Q := ⟨h.1, h.2.1, fun c hc => (h.2.2 c hc).trans (i c hc)⟩
theorem msk_0 {P : Nat → Prop} (h : ∀ c, c < 5 → ¬ P c) : msk 0 P := by
  refine ⟨by decide, by decide, fun c hc => ⟨fun q => ?_, fun q => absurd q (h c hc)⟩⟩
  unfold bs at q
  rw [show (0 : Int).toNat = 0 from rfl, Nat.zero_testBit] at q
  exact absurd q (by decide)
theorem msk_or {a b : Int} {P Q : Nat → Prop} (ha : msk a P) (hb : msk b Q) : msk (zor a b) (fun c => P c ∨ Q c) := by
  obtain ⟨a0, a1, a2⟩ := ha
  obtain ⟨b0, b1, b2⟩ := hb
  have h := Nat.or_lt_two_pow (x := a.toNat) (y := b.toNat) (n := 5) (by omega) (by omega)
  rw [zor_nat a0 (by omega) b0 (by omega)]
  refine ⟨by omega, by omega, fun c hc => ?_⟩
  show _ ↔ P c ∨ Q c
  rw [← a2 c hc, ← b2 c hc]
  unfold bs
  rw [Int.toNat_natCast, Nat.testBit_or, Bool.or_eq_true]
theorem one_shl : ∀ c : Nat, c < 5 → 0 ≤ zshl 1 (c : Int) ∧ zshl 1 (c : Int) < 32 ∧ ∀ d : Nat, d < 5 → ((zshl 1 (c : Int)).toNat.testBit d = true ↔ d = c) := by decide +kernel
theorem msk_1 {c : Nat} (hc : c < 5) : msk (zshl 1 (c : Int)) (fun d => d = c) := one_shl c hc
theorem and_bit : ∀ z : Nat, z < 32 → ∀ c : Nat, c < 5 → (zand (z : Int) (zshl 1 (c : Int)) = 0 ↔ z.testBit c = false) := by decide +kernel
theorem msk_and {z : Int} {P : Nat → Prop} (h : msk z P) {c : Nat} (hc : c < 5) : zand z (zshl 1 (c : Int)) = 0 ↔ ¬ P c := by
  obtain ⟨h0, h1, h2⟩ := h
  have := and_bit z.toNat (by omega) c hc
  rw [show ((z.toNat : Nat) : Int) = z by omega] at this
  rw [this, ← h2 c hc]
  unfold bs
  cases z.toNat.testBit c <;> decide
/-- by which contexts a word is made; how they follow -/
def mdb (G : zGr) (ax : List Int) (y : Int) (c : Nat) : Prop := ∃ (x : Int) (r : Nat), lcA G ax x ∧ insP G x r ∧ insV G x r = y ∧ r / 100 = c
def foll (G : zGr) (ax : List Int) (c d : Nat) : Prop := ∃ (x : Int) (r : Nat), lcA G ax x ∧ insP G x r ∧ r / 100 = d ∧ mdb G ax x c
theorem insP_c {G : zGr} {x : Int} {r : Nat} (h : insP G x r) : r / 100 < G.2.2.length := by
  obtain ⟨L, R, pr, h1, _⟩ := h
  exact (List.getElem?_eq_some_iff.mp h1).1
