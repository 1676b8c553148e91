/-! PURE 40: the reference: insertions one by one; reductions counted -/
/-- the reference's notes have changed, and the word -/
def mcur (M M1 : zM) (y : Int) : Prop := M1 48 29 = y ∧ mfr (fun b => 58 ≤ b ∧ b ≤ 66) (fun k => k = 0 ∨ k = 23 ∨ k = 26 ∨ k = 29) M M1
theorem mcur.of {M M1 : zM} {y : Int} (h : mscr M M1) : mcur M (zs M1 48 29 y) y := ⟨zs_at M1 48 29 y, (h.mono (fun _ q => q) (fun k q => by omega)).trans (mfr.fld (by omega))⟩
