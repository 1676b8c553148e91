/-! PURE 55: the law's steps: sizes compared with an array -/
/-- where the comparison stops -/
def stp (G : zGr) (ax : List Int) (n : Int) (f : Int → Int) (i : Nat) : Prop := ∀ j : Nat, j < i → (j : Int) ≤ G.1 ∧ (j : Int) < n ∧ f j = cln G ax j
def cmpE (G : zGr) (ax : List Int) (n : Int) (f : Int → Int) (c v : Int) : Prop := ∃ i : Nat, stp G ax n f i ∧ ((G.1 < (i : Int) ∧ c = 0 ∧ v = -1) ∨ ((i : Int) ≤ G.1 ∧ ¬ (i : Int) < n ∧ c = 1) ∨ ((i : Int) ≤ G.1 ∧ (i : Int) < n ∧ f i ≠ cln G ax i ∧ c = 0 ∧ v = i))
section
variable {B : Int} {G : zGr} {ax : List Int} {cur : Int} {R : zRst} {M : zM} {S : zS} {lnS v5 : Int} {scr : Int → Int} {P : (Int × zM × zS) ⊕ (zM × zS) → Prop}
theorem stp_s {n : Int} {f : Int → Int} {i : Nat} (h : stp G ax n f i) (h1 : (i : Int) ≤ G.1) (h2 : (i : Int) < n) (h3 : f i = cln G ax i) : stp G ax n f (i + 1) := fun j hj => by
  by_cases e : j = i
  · rw [e]; exact ⟨h1, h2, h3⟩
  · exact h j (by omega)
theorem CX_cmp {M1 : zM} {j : Nat} (hC : clsW B G ax cur R M1 S) (hL : lang1 G ax M1) (hj : j < 3) : Ok (F_X10_compareSizes_L36 (42 + 2 * j) 0 M1 S) (fun r => ∃ c v, cmpE G ax (R.2.2.2 j).2.1 (R.2.2.2 j).2.2 c v ∧ r.2.1 = M1 ∧ ((c = 0 ∧ r.1 = .inr v ∧ r.2.2 = S) ∨ (c = 1 ∧ r.1 = .inl 2 ∧ r.2.2 = zer S))) := by
  have hs := hC.2.2.2.2.2.2.2.2.2.2.2 j hj
  obtain ⟨t1, t2, t3, t4, t5⟩ := slt hC.1 hj
  have hG1 := hC.2.1.1.1
  have h20 := hs.2.2.2.2
  unfold F_X10_compareSizes_L36
  refine Ok.loop (fun z => ∃ i : Nat, z.1 = i ∧ (i : Int) ≤ G.1 + 1 ∧ z.2.1 = M1 ∧ z.2.2 = S ∧ stp G ax (R.2.2.2 j).2.1 (R.2.2.2 j).2.2 i) (fun z => (100 - z.1).toNat) (fun e => ∃ c v, cmpE G ax (R.2.2.2 j).2.1 (R.2.2.2 j).2.2 c v ∧ ((c = 0 ∧ v ≠ -1 ∧ e = .inl (v, M1, S)) ∨ (c = 0 ∧ v = -1 ∧ e = .inr (.inl (M1, S))) ∨ (c = 1 ∧ e = .inr (.inr (2, M1, zer S))))) ⟨0, rfl, by omega, rfl, rfl, fun y hy => absurd hy (Nat.not_lt_zero y)⟩ (by show (100 - (0 : Int)).toNat < zN; decide) ?_ ?_
  · rintro ⟨v3, M2, S2⟩ ⟨i, i1, i2, i3, i4, i5⟩
    dsimp only at i1 i2 i3 i4 i5 ⊢
    subst i1 i3 i4
    unfold F_X10_compareSizes_B36
    rw [hC.2.2.1.2.2.1]
    refine Ok.ite (fun q => Ok.ret ⟨0, -1, ⟨i, i5, Or.inl ⟨q, rfl, rfl⟩⟩, Or.inr (Or.inl ⟨rfl, rfl, rfl⟩)⟩) (fun q => ?_)
    refine Ok.chk t2 ?_
    rw [hs.2.1]
    unfold F_X10_requireIndex F_X10_requireIndex_J9
    rw [if_neg (by omega)]
    by_cases q1 : (i : Int) < (R.2.2.2 j).2.1
    · rw [if_pos q1, zbx_inr, zchk_pos t2, t3, FX6_at t4 (by omega) (by rw [t5]; omega), hs.2.2.1 i (by omega) (by omega)]
      simp only [zb1_some]
      rw [FX3_wordsOfLength hC.1 hL]
      simp only [zb1_some]
      rw [w_id (a := (i : Int) + 1) (by omega)]
      refine Ok.ite (fun e => Ok.lett (Ok.ret ⟨⟨i + 1, by show (i : Int) + 1 = _; omega, by omega, rfl, rfl, stp_s i5 (by omega) q1 e⟩, by show (100 - ((i : Int) + 1)).toNat < (100 - (i : Int)).toNat; omega⟩)) (fun e => Ok.ret ⟨0, i, ⟨i, i5, Or.inr (Or.inr ⟨by omega, q1, e, rfl, rfl⟩)⟩, Or.inl ⟨rfl, by omega, rfl⟩⟩)
    · rw [if_neg q1, zbx_inl]
      exact Ok.ret ⟨1, 0, ⟨i, i5, Or.inr (Or.inl ⟨by omega, q1, rfl⟩)⟩, Or.inr (Or.inr ⟨rfl, rfl⟩)⟩
  · rintro e ⟨c, v, hc, (⟨a1, a2, rfl⟩ | ⟨a1, a2, rfl⟩ | ⟨a1, rfl⟩)⟩
    · show Ok (F_X10_compareSizes_J75 v M1 S) _
      unfold F_X10_compareSizes_J75
      exact Ok.ret ⟨c, v, hc, rfl, Or.inl ⟨a1, rfl, rfl⟩⟩
    · show Ok (F_X10_compareSizes_J83 M1 S) _
      unfold F_X10_compareSizes_J83
      exact Ok.ret ⟨c, v, hc, rfl, Or.inl ⟨a1, by rw [a2], rfl⟩⟩
    · show Ok (some (Sum.inl 2, M1, zer S)) _
      exact Ok.ret ⟨c, v, hc, rfl, Or.inr ⟨a1, rfl, rfl⟩⟩
end
