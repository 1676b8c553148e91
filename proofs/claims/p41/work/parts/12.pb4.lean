/-! PURE 22: the reference's answers about contexts -/
def usd (G : zGr) (ax : List Int) (c : Nat) : Prop := ∃ (x : Int) (r : Nat), lcA G ax x ∧ insP G x r ∧ r / 100 = c
def gen (G : zGr) (ax : List Int) (C : Nat → Prop) : Prop := ∀ y, lcA G ax y → lc G ax C y
/-- the number of bits, as the machine counts them -/
def bcf (z : Int) : Int := (F_J6_bitCount_0f7a4 z).getD 0
theorem bcf_n : ∀ z : Nat, z < 32 → F_J6_bitCount_0f7a4 (z : Int) = some (bcf (z : Int)) := by decide +kernel
theorem bcf_e {z : Int} (h : 0 ≤ z ∧ z < 32) : F_J6_bitCount_0f7a4 z = some (bcf z) := by
  have := bcf_n z.toNat (by omega)
  rw [show ((z.toNat : Nat) : Int) = z by omega] at this
  exact this
/-- the smallest set, the smallest mask of several -/
def minP (G : zGr) (ax : List Int) (m : Int) : Prop := (0 ≤ m ∧ m < (2 : Int) ^ G.2.2.length) ∧ gen G ax (bs m) ∧ ∀ m2 : Int, 0 ≤ m2 → m2 < (2 : Int) ^ G.2.2.length → gen G ax (bs m2) → bcf m < bcf m2 ∨ (bcf m = bcf m2 ∧ m ≤ m2)
theorem minP_u {G : zGr} {ax : List Int} {a b : Int} (ha : minP G ax a) (hb : minP G ax b) : a = b := by
  have h1 := ha.2.2 b hb.1.1 hb.1.2 hb.2.1
  have h2 := hb.2.2 a ha.1.1 ha.1.2 ha.2.1
  omega
theorem gen_all {G : zGr} {ax : List Int} (hG : grok G) : gen G ax (bs ((2 : Int) ^ G.2.2.length - 1)) := fun y hy => (lcA_all hG).mpr hy
