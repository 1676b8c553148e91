/-! PURE 50: the law's steps: density, count, letterAt -/
theorem dens_n : ∀ a : Nat, a < 301 → ∀ n : Nat, n < 10 → (dens (a : Int) (n : Int)) &&& 0x7fffffffffffffff ≤ 0x7ff0000000000000 := by decide +kernel
theorem dens_ok (a n : Int) (h0 : 0 ≤ a) (h1 : a ≤ 300) (h2 : 0 ≤ n) (h3 : n ≤ 9) : vf_n64 (dens a n) := by
  have := dens_n a.toNat (by omega) n.toNat (by omega)
  rw [show ((a.toNat : Nat) : Int) = a by omega, show ((n.toNat : Nat) : Int) = n by omega] at this
  exact this
theorem cln_b {G : zGr} {ax : List Int} {n : Int} (h : fewA G ax) : 0 ≤ cln G ax n ∧ cln G ax n ≤ 300 := by
  have h1 := cnt_le (D := fun y => lcA G ax y ∧ ln y = n) (E := lcA G ax) (n := 29524) (fun k _ a => a.1)
  unfold fewA at h
  unfold cln
  omega
section
variable {B : Int} {G : zGr} {ax : List Int} {cur : Int} {R : zRst} {M : zM} {S : zS} {lnS v5 : Int} {scr : Int → Int} {P : (Int × zM × zS) ⊕ (zM × zS) → Prop}
theorem zi2c_3 : ∀ d : Nat, d < 3 → zi2c (97 + (d : Int)) = 97 + (d : Int) := by decide +kernel
end
