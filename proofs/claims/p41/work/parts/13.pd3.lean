/-! PURE 39: the class: confluence -/
theorem nfI.fr {G : zGr} {ax : List Int} {B : Int} {M M1 : zM} (h : nfI G ax B M) (e25 : M1 25 = M 25) (e26 : M1 26 = M 26) (e27 : M1 27 = M 27) : nfI G ax B M1 := by
  unfold nfI fms at *
  rw [e25, e26, e27]
  exact h
