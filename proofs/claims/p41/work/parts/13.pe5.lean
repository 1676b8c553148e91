/-! PURE 47: the law's steps: calls that make another word the word -/
theorem clsW.mono {B B1 : Int} {G : zGr} {ax : List Int} {cur : Int} {R : zRst} {M : zM} {S : zS} (h : clsW B G ax cur R M S) (i : B ≤ B1) : clsW B1 G ax cur R M S := by
  obtain ⟨a1, a2, a3, a4, a5, a6, a7, ⟨b1, b2⟩, a9⟩ := h
  exact ⟨a1, a2, a3, a4, a5, a6, a7, ⟨⟨b1.1, by have := b1.2; omega⟩, b2⟩, a9⟩
theorem cls_cur {B : Int} {G : zGr} {ax : List Int} {cur y : Int} {R : zRst} {M : zM} {S : zS} (h : clsW B G ax cur R M S) (hy : wd y) : clsW B G ax y R (zs M 1 8 y) S ∧ keepM S M (zs M 1 8 y) := by
  obtain ⟨a1, a2, a3, a4, a5, a6, a7, a8, a9⟩ := id h
  have e : ∀ b : Nat, b ≠ 1 → zs M 1 8 y b = M b := fun b hb => zs_ne M 8 y hb
  refine ⟨h.qry (cfr.zs (A := qA) (Or.inl rfl) (by decide)) (fun k _ k8 => zs_off _ _ (Or.inr k8)) (a7.fr (zs_off _ _ (Or.inr (by decide))) (fun b hb => e b (by have := hb.1; omega))) (a8.fr (e 25 (by decide)) (e 26 (by decide)) (e 27 (by decide))) (zs_at M 1 8 y) hy, fun b h1 h2 => e b (by omega)⟩
section
variable {B : Int} {G : zGr} {ax : List Int} {cur : Int} {R : zRst} {M : zM} {S : zS} {ln v5 : Int} {scr : Int → Int} {P : (Int × zM × zS) ⊕ (zM × zS) → Prop}
theorem CX_move {M1 : zM} {y : Int} {r : Nat} (h : clsW B G ax cur R M1 S) (hy : wd y) (hr : r < 500) : Ok (F_X10_makeMove (mvc y r) M1) (fun e => e.1 = ((r / 100 : Nat) : Int) ∧ clsW B G ax y R e.2 S ∧ keepM S M1 e.2) := by
  have hm := mvc_d hy hr
  unfold F_X10_makeMove
  rw [FX4_word hm.2.1 hm.2.2, hm.1]
  simp only [zb1_some]
  refine Ok.lett ?_
  rw [FX4_context hy hr]
  simp only [zb1_some]
  obtain ⟨c1, c2⟩ := cls_cur h hy
  exact Ok.ret ⟨rfl, c1, c2⟩
end
