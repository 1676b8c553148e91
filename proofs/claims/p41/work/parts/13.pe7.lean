/-! PURE 49: the law's steps: small ones -/
theorem jn_3 {x d : Int} (hd : 1 ≤ d ∧ d ≤ 3) : jn x d = 3 * x + d ∧ ln d = 1 ∧ wd d := by
  have h1 : ln d = 1 := by unfold ln; rw [if_neg (by omega), if_pos (by omega)]
  refine ⟨?_, h1, ⟨by omega, by omega⟩⟩
  unfold jn
  rw [h1, show p3 1 = 3 from rfl]
  omega
section
variable {B : Int} {G : zGr} {ax : List Int} {cur : Int} {R : zRst} {M : zM} {S : zS} {lnS v5 : Int} {scr : Int → Int} {P : (Int × zM × zS) ⊕ (zM × zS) → Prop}
end
