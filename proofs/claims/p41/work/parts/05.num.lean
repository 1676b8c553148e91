/-! NUMBERS: the machine's ints and longs as whole numbers -/
def zi (z : Int) : Int32 := Int32.ofInt z
def zl (z : Int) : Int64 := Int64.ofInt z
def zd (z : Int) : UInt64 := UInt64.ofNat z.toNat
abbrev inR (z : Int) : Prop := -2147483648 ≤ z ∧ z < 2147483648
abbrev inL (z : Int) : Prop := -9223372036854775808 ≤ z ∧ z < 9223372036854775808
theorem zi_toInt {z : Int} (h : inR z) : (zi z).toInt = z := Int32.toInt_ofInt_of_le h.1 h.2
theorem zl_toInt {z : Int} (h : inL z) : (zl z).toInt = z := Int64.toInt_ofInt_of_le h.1 h.2
theorem zi_asI (x : Int32) : zi x.toInt = x := Int32.ofInt_toInt x
theorem zl_asL (x : Int64) : zl x.toInt = x := Int64.ofInt_toInt x
theorem inR_i (x : Int32) : inR x.toInt := ⟨x.le_toInt, x.toInt_lt⟩
theorem inL_l (x : Int64) : inL x.toInt := ⟨x.le_toInt, x.toInt_lt⟩
theorem zi_add (a b : Int) : zi a + zi b = zi (a + b) := (Int32.ofInt_add a b).symm
theorem zi_sub (a b : Int) : zi a - zi b = zi (a - b) := (Int32.ofInt_sub a b).symm
theorem zi_mul (a b : Int) : zi a * zi b = zi (a * b) := (Int32.ofInt_mul a b).symm
theorem zi_neg (a : Int) : -zi a = zi (-a) := (Int32.ofInt_neg a).symm
theorem zi_lt {a b : Int} (ha : inR a) (hb : inR b) : zi a < zi b ↔ a < b := by rw [Int32.lt_iff_toInt_lt, zi_toInt ha, zi_toInt hb]
theorem zi_le {a b : Int} (ha : inR a) (hb : inR b) : zi a ≤ zi b ↔ a ≤ b := by rw [Int32.le_iff_toInt_le, zi_toInt ha, zi_toInt hb]
theorem zi_eq {a b : Int} (ha : inR a) (hb : inR b) : zi a = zi b ↔ a = b := by rw [← Int32.toInt_inj, zi_toInt ha, zi_toInt hb]
theorem zl_lt {a b : Int} (ha : inL a) (hb : inL b) : zl a < zl b ↔ a < b := by rw [Int64.lt_iff_toInt_lt, zl_toInt ha, zl_toInt hb]
theorem zl_eq {a b : Int} (ha : inL a) (hb : inL b) : zl a = zl b ↔ a = b := by rw [← Int64.toInt_inj, zl_toInt ha, zl_toInt hb]
theorem zi_0 : (0 : Int32) = zi 0 := rfl
theorem inR_0 : inR 0 := by decide
theorem zi_clamp {z : Int} (h : inR z) : (zi z).toNatClampNeg = z.toNat := by
  show (zi z).toInt.toNat = _
  rw [zi_toInt h]
theorem zi_div {a b : Int} (ha : inR a) (hb : inR b) (h0 : 0 ≤ a) (h1 : 0 < b) : zi a / zi b = zi (a / b) := by
  have h := Int32.ofInt_tdiv (a := a) (b := b) ha.1 (by have := ha.2; show a ≤ 2147483647; omega) hb.1 (by have := hb.2; show b ≤ 2147483647; omega)
  rw [Int.tdiv_eq_ediv_of_nonneg h0] at h
  exact h.symm
theorem zi_rem {a b : Int} (ha : inR a) (hb : inR b) (h0 : 0 ≤ a) (h1 : 0 < b) : zi a - zi a / zi b * zi b = zi (a % b) := by
  rw [zi_div ha hb h0 h1, zi_mul, zi_sub]
  congr 1
  rw [Int.emod_def, Int.mul_comm]
theorem inR_div {a b : Int} (ha : inR a) (h0 : 0 ≤ a) (h1 : 0 < b) : inR (a / b) := by
  have h2 : a / b ≤ a := Int.ediv_le_self b h0
  have h3 : 0 ≤ a / b := Int.ediv_nonneg h0 (Int.le_of_lt h1)
  have := ha.2
  exact ⟨by omega, by omega⟩
theorem inR_mod {a b : Int} (hb : inR b) (h1 : 0 < b) : inR (a % b) := by
  have h2 := Int.emod_nonneg a (Int.ne_of_gt h1)
  have h3 := Int.emod_lt_of_pos a h1
  have := hb.2
  exact ⟨by omega, by omega⟩
/-! bit by bit: as the machine does it; in words of whole numbers by laws -/
def zand (a b : Int) : Int := (zi a &&& zi b).toInt
def zor (a b : Int) : Int := (zi a ||| zi b).toInt
def zxor (a b : Int) : Int := (zi a ^^^ zi b).toInt
def zshl (a b : Int) : Int := (zi a <<< (zi b &&& 31)).toInt
def zshr (a b : Int) : Int := (zi a >>> (zi b &&& 31)).toInt
def zi2b (a : Int) : Int := ((zi a).toInt8.toInt32).toInt
def zi2s (a : Int) : Int := ((zi a).toInt16.toInt32).toInt
def zi2c (a : Int) : Int := (((zi a).toUInt32 % 65536).toInt32).toInt
def zladd (a b : Int) : Int := (zl a + zl b).toInt
def zland (a b : Int) : Int := (zl a &&& zl b).toInt
def zlor (a b : Int) : Int := (zl a ||| zl b).toInt
def zlxor (a b : Int) : Int := (zl a ^^^ zl b).toInt
def zlshl (a b : Int) : Int := (zl a <<< ((zi b).toInt64 &&& 63)).toInt
def zlshr (a b : Int) : Int := (zl a >>> ((zi b).toInt64 &&& 63)).toInt
def zcmp (a b : Int) : Int := if a < b then -1 else if a = b then 0 else 1
theorem zi_l {a : Int} (ha : inR a) : (zi a).toInt64 = zl a := by
  rw [← Int64.toInt_inj, Int32.toInt_toInt64, zi_toInt ha, zl_toInt ⟨by have := ha.1; omega, by have := ha.2; omega⟩]
theorem inL_R {a : Int} (ha : inR a) : inL a := ⟨by have := ha.1; omega, by have := ha.2; omega⟩
theorem inR_cmp (a b : Int) : inR (zcmp a b) := by unfold zcmp; split; · decide
                                                   · split <;> decide
theorem zi_cmp {a b : Int} (ha : inL a) (hb : inL b) : lg_cmp (zl a) (zl b) = zi (zcmp a b) := by
  unfold lg_cmp zcmp
  have e1 : (zl a > zl b) ↔ b < a := zl_lt hb ha
  by_cases h : a < b
  · rw [if_neg (fun q => by have := e1.mp q; omega), if_neg (fun q => by have := (zl_eq ha hb).mp q; omega), if_pos h]; rfl
  · by_cases h2 : a = b
    · rw [if_neg (fun q => by have := e1.mp q; omega), if_pos ((zl_eq ha hb).mpr h2), if_neg h, if_pos h2]; rfl
    · rw [if_pos (e1.mpr (by omega)), if_neg h, if_neg h2]; rfl
/-- f, but v at k -/
def up {α β : Type} [DecidableEq α] (f : α → β) (k : α) (v : β) : α → β := fun j => if j = k then v else f j
theorem up_eq {α β : Type} [DecidableEq α] (f : α → β) (k : α) (v : β) : up f k v k = v := if_pos rfl
theorem up_ne {α β : Type} [DecidableEq α] (f : α → β) {k j : α} (v : β) (h : j ≠ k) : up f k v j = f j := if_neg h
