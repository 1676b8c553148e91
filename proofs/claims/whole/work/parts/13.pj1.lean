/-! PURE 78: the start -/
def Mz : zM := fun _ _ => 0
def Sz : zS := (0, fun _ => (28, 0), fun _ _ => 0)
/-- the class's numbers behind its constructor -/
def MCa : zM := zs (zs (zs (zs (zs (zs (zs (zs (zs (zs (zs Mz 5 4 1) 5 5 6) 8 4 1) 8 5 6) 25 2 (-1)) 25 6 0) 42 1 (-1)) 44 1 (-1)) 46 1 (-1)) 1 7 (-1)) 1 11 1
def oA : Option (zM × zS) := F_X10_init 1 Mz (zn Sz (7, 12))
def sA : zS := match oA with | some r => r.2 | none => Sz
set_option maxRecDepth 100000 in
set_option maxHeartbeats 4000000 in
theorem oA_eq : oA = some (MCa, sA) := rfl
theorem sA_n : sA.1 = 47 := by decide +kernel
/-- the reference's numbers behind its constructor -/
def MMa : zM := zs (zs (zs (zs (zs (zs MCa 48 8 1) 48 9 6) 48 14 (-1)) 67 0 (-1)) 67 1 (-1)) 67 2 (-1)
def oB : Option (zM × zS) := F_X11_init 48 MCa (zn sA (8, 44))
def sB : zS := match oB with | some r => r.2 | none => Sz
set_option maxRecDepth 100000 in
set_option maxHeartbeats 4000000 in
theorem oB_eq : oB = some (MMa, sB) := rfl
theorem sB_n : sB.1 = 75 := by decide +kernel
def sE : zS := zn (zn sB (21, 1)) (24, 1)
theorem sE_k : ∀ q : Nat, q < 78 → 0 < q → sE.2.1 q = zKL.getD q (0, 0) := by decide +kernel
theorem sE_r : ∀ a : Nat, a < 78 → ∀ k : Nat, k < 45 → (zRT.getD a []).getD k 0 ≠ 0 → sE.2.2 a (k : Int) = (zRT.getD a []).getD k 0 := by decide +kernel
theorem zRT_len : ∀ a : Nat, a < 78 → (zRT.getD a []).length ≤ 44 := by decide +kernel
theorem sE_fx : zFx sE := by
  refine ⟨by decide +kernel, fun q h0 h1 => sE_k q h1 h0, fun a k h => ?_⟩
  have ha : a < 78 := by
    rcases Nat.lt_or_ge a 78 with q | q
    · exact q
    · rw [zRT_big (by omega)] at h
      exact absurd rfl h
  have hk : k < 45 := by
    rcases Nat.lt_or_ge k 45 with q | q
    · exact q
    · have hl := zRT_len a ha
      rw [nm_out (by omega)] at h
      exact absurd rfl h
  exact sE_r a ha k hk h
