/-! PURE 19: the reference: all contexts; derivations counted -/
def fewA (G : zGr) (ax : List Int) : Prop := cnt (lcA G ax) 29524 ≤ 300
theorem all_w : ∀ n : Nat, n ≤ 5 → w (zshl 1 (n : Int) - 1) = 2 ^ n - 1 := by decide +kernel
theorem axM.fr {A : Nat → Prop} {F : Int → Prop} {M M1 : zM} {ax : List Int} (h : axM M ax) (hf : mfr A F M M1) (hA : ¬ A 49) (hF : ¬ F 2) : axM M1 ax := by
  unfold axM
  rw [hf.2 2 hF (by decide) (by decide), hf.1 49 hA (by decide) (by decide) (by decide)]
  exact h
/-- only the reference's notes have changed -/
def mscr (M M1 : zM) : Prop := mfr (fun b => 58 ≤ b ∧ b ≤ 66) (fun k => k = 0 ∨ k = 23 ∨ k = 26) M M1
theorem mscr.of {A : Nat → Prop} {F : Int → Prop} {M M1 : zM} (h : mfr A F M M1) (i : ∀ b, A b → 58 ≤ b ∧ b ≤ 66) (j : ∀ k, F k → k = 0 ∨ k = 23 ∨ k = 26) : mscr M M1 := h.mono i j
theorem mrk.fr {A : Nat → Prop} {F : Int → Prop} {M M1 : zM} {D : Int → Prop} (h : mrk M D) (hf : mfr A F M M1) (hA : ¬ A 58) (hF : ¬ F 23) : mrk M1 D := by
  unfold mrk
  rw [hf.1 58 hA (by decide) (by decide) (by decide), hf.2 23 hF (by decide) (by decide)]
  exact h
