/-! PURE 56: the law's steps: the grammar changed; an axiom removed -/
theorem chg {B : Int} {G : zGr} {ax : List Int} {cur : Int} {R : zRst} {M : zM} {S : zS} (a1 : zFx S) (a2 : grok G ∧ axok ax ∧ wd cur) (a3 : gC M S G) (a4 : refS S 7 ∧ refS S 10) (a5 : axC M ax) (a6 : M 1 8 = cur) (a7 : langC M) (a8 : (0 ≤ M 25 4 ∧ M 25 4 ≤ B) ∧ ∀ y, wd y → M 27 y ≤ M 25 4) (a9 : restC R M S) : Ok (F_X10_grammarChanged M) (fun M2 => clsW B G ax cur R M2 S ∧ keepM S M M2) := by
  unfold F_X10_grammarChanged F_X5_forget
  refine Ok.lett (Ok.b1 (Q := fun M2 => M2 = zs (zs (zs M 1 11 1) 25 2 (-1)) 25 6 0) (Ok.lett (Ok.lett (Ok.ret rfl))) (fun M2 e => ?_))
  have hf : cfr (fun b => b = 1 ∨ b = 25) S M M2 := by
    rw [e]
    exact ((cfr.zs (Or.inl rfl) (by decide)).trans (cfr.zs (Or.inr rfl) (by decide))).trans (cfr.zs (Or.inr rfl) (by decide))
  have k1 : ∀ k : Int, k ≠ 11 → M2 1 k = M 1 k := fun k hk => by rw [e, zs_ne _ _ _ (by decide), zs_ne _ _ _ (by decide), zs_off _ _ (Or.inr hk)]
  have k11 : M2 1 11 = 1 := by rw [e, zs_ne _ _ _ (by decide), zs_ne _ _ _ (by decide), zs_at]
  have k25 : ∀ k : Int, k ≠ 2 → k ≠ 6 → M2 25 k = M 25 k := fun k h2 h6 => by rw [e, zs_off _ _ (Or.inr h6), zs_off _ _ (Or.inr h2), zs_ne _ _ _ (by decide)]
  have k252 : M2 25 2 = -1 := by rw [e, zs_off _ _ (Or.inr (by decide)), zs_at]
  have k256 : M2 25 6 = 0 := by rw [e, zs_at]
  have eb : ∀ b : Nat, b ≤ 89 → b ≠ 1 → b ≠ 25 → M2 b = M b := fun b h h1 h2 => hf.1 b (by omega) (Or.inl h)
  obtain ⟨r1, r2, r3, r4⟩ := a9
  refine Ok.ret ⟨⟨a1, a2, a3.fr hf (by decide), a4, ?_, by rw [k1 8 (by decide)]; exact a6, ⟨a7.fr (by rw [eb 11 (by decide) (by decide) (by decide)]) (eb 12 (by decide) (by decide) (by decide)) (eb 13 (by decide) (by decide) (by decide)) (eb 15 (by decide) (by decide) (by decide)), fun q => by omega⟩, ⟨?_, ?_, Or.inl k252, Or.inl k256⟩, ?_, ?_, ?_, ?_⟩, keepM.of hf (fun b q => by omega)⟩
  · unfold axC; rw [eb 5 (by decide) (by decide) (by decide), eb 6 (by decide) (by decide) (by decide)]; exact a5
  · rw [k25 4 (by decide) (by decide)]; exact a8.1
  · rw [k25 4 (by decide) (by decide), eb 27 (by decide) (by decide) (by decide)]; exact a8.2
  · unfold savC gS axS at *
    rw [k1 10 (by decide), k1 9 (by decide), eb 8 (by decide) (by decide) (by decide), eb 9 (by decide) (by decide) (by decide)]
    rcases r1 with b | ⟨b1, G1, ax1, cur1, b2, b3, ⟨c1, c2, c3, c4⟩, b5⟩
    · exact Or.inl b
    · exact Or.inr ⟨b1, G1, ax1, cur1, b2, b3, ⟨c1, c2, c3, fun j L R pr q => hf.2 _ _ _ _ (c4 j L R pr q)⟩, b5⟩
  · rw [eb 2 (by decide) (by decide) (by decide), eb 3 (by decide) (by decide) (by decide)]; exact r2
  · rw [k1 7 (by decide)]; exact r3
  · intro k hk
    rw [eb (42 + 2 * k) (by omega) (by omega) (by omega), eb (43 + 2 * k) (by omega) (by omega) (by omega)]
    exact r4 k hk
section
variable {B : Int} {G : zGr} {ax : List Int} {cur : Int} {R : zRst} {M : zM} {S : zS} {lnS v5 : Int} {scr : Int → Int} {P : (Int × zM × zS) ⊕ (zM × zS) → Prop}
theorem axok_er {t : Nat} (h : axok ax) : axok (ax.eraseIdx t) := by
  refine ⟨Nat.le_trans (List.length_eraseIdx_le ax t) h.1, fun a ha => h.2 a (List.eraseIdx_sublist ax t |>.subset ha)⟩
theorem CX_drop {t : Nat} (hC : clsW B G ax cur R M S) (ht : t < ax.length) : Ok (F_X2_dropAxiom (t : Int) M S) (fun M1 => axC M1 (ax.eraseIdx t) ∧ (∀ k, k ≠ 2 → M1 5 k = M 5 k) ∧ cfr (fun b => b = 5 ∨ b = 6) S M M1) := by
  obtain ⟨x1, x2⟩ := hC.2.2.2.2.1
  have h6 := hC.2.1.2.1.1
  unfold F_X2_dropAxiom
  rw [w_id (a := (t : Int) + 1) (by omega)]
  refine Ok.lett ?_
  unfold F_X2_dropAxiom_L4
  refine Ok.loop (fun z => ∃ k : Nat, z.1 = k ∧ t + 1 ≤ k ∧ k ≤ ax.length ∧ cfr (fun b => b = 6) S M z.2 ∧ ∀ j : Nat, z.2 6 j = if t ≤ j ∧ j + 1 < k then M 6 ((j : Int) + 1) else M 6 j) (fun z => (100 - z.1).toNat) (fun M1 => cfr (fun b => b = 6) S M M1 ∧ ∀ j : Nat, M1 6 j = if t ≤ j ∧ j + 1 < ax.length then M 6 ((j : Int) + 1) else M 6 j) ⟨t + 1, by show (t : Int) + 1 = _; omega, by omega, by omega, cfr.refl, fun j => by show M 6 j = _; rw [if_neg (by omega)]⟩ (by show (100 - ((t : Int) + 1)).toNat < zN; rw [zN_v]; omega) ?_ ?_
  · rintro ⟨v2, M1⟩ ⟨k, i1, i2, i3, i4, i5⟩
    dsimp only at i1 i2 i3 i4 i5 ⊢
    subst i1
    unfold F_X2_dropAxiom_B4
    rw [i4.1 5 (by decide) (Or.inl (by decide)), x1]
    refine Ok.ite (fun c => ?_) (fun c => Ok.ret ⟨i4, fun j => by rw [i5 j, show k = ax.length by omega]⟩)
    unfold F_X2_axiom
    rw [xat hC.1 6 6 rfl (by omega) (by omega)]
    simp only [zb1_some]
    rw [w_id (a := (k : Int) - 1) (by omega), xput hC.1 6 6 rfl (by omega) (by omega), w_id (a := (k : Int) + 1) (by omega)]
    simp only [zb1_some]
    refine Ok.lett (Ok.ret ⟨⟨k + 1, by show (k : Int) + 1 = _; omega, by omega, by omega, i4.trans (cfr.zs rfl (by decide)), fun j => ?_⟩, by show (100 - ((k : Int) + 1)).toNat < (100 - (k : Int)).toNat; omega⟩)
    show zs M1 6 ((k : Int) - 1) (M1 6 k) 6 j = _
    by_cases e : (j : Int) = (k : Int) - 1
    · rw [e, zs_at, i5 k, if_neg (by omega), if_pos (by omega)]
      congr 1
      omega
    · rw [zs_off _ _ (Or.inr e), i5 j]
      by_cases e2 : t ≤ j ∧ j + 1 < k
      · rw [if_pos e2, if_pos (by omega)]
      · rw [if_neg e2, if_neg (by omega)]
  · intro M1 ⟨c1, c2⟩
    unfold F_X2_dropAxiom_J33
    rw [c1.1 5 (by decide) (Or.inl (by decide)), x1, w_id (a := (ax.length : Int) - 1) (by omega)]
    refine Ok.lett (Ok.ret ⟨⟨?_, fun j v hj => ?_⟩, fun k hk => ?_, (c1.mono (fun b q => Or.inr q)).trans (cfr.zs (Or.inl rfl) (by decide))⟩)
    · rw [zs_at, List.length_eraseIdx_of_lt ht]; omega
    · rw [zs_ne _ _ _ (by decide), c2 j]
      rw [List.getElem?_eraseIdx] at hj
      by_cases e : j < t
      · rw [if_pos e] at hj
        rw [if_neg (by omega)]
        exact x2 j v hj
      · rw [if_neg e] at hj
        have := (List.getElem?_eq_some_iff.mp hj).1
        rw [if_pos (by omega)]
        have h2 := x2 (j + 1) v hj
        rw [show ((j + 1 : Nat) : Int) = (j : Int) + 1 by omega] at h2
        exact h2
    · rw [zs_off _ _ (Or.inr hk), c1.1 5 (by decide) (Or.inl (by decide))]
end
