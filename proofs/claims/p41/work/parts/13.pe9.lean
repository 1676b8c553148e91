/-! PURE 51: the law's steps: arrays; steps that change more than the word -/
theorem slt {S : zS} (hF : zFx S) {i : Nat} (hi : i < 3) : zrf S 41 (i : Int) = 42 + 2 * i ∧ zkd S (42 + 2 * i) = 6 ∧ zrf S (42 + 2 * i) 0 = 43 + 2 * i ∧ zkd S (43 + 2 * i) = 20 ∧ zlen S (43 + 2 * i) = 20 := by
  rcases (show i = 0 ∨ i = 1 ∨ i = 2 by omega) with e | e | e
  · subst e; exact ⟨zFx_rf hF 41 0 rfl, zFx_kd hF 42 rfl, zFx_rf hF 42 0 rfl, zFx_kd hF 43 rfl, zFx_ln hF 43 rfl⟩
  · subst e; exact ⟨zFx_rf hF 41 1 rfl, zFx_kd hF 44 rfl, zFx_rf hF 44 0 rfl, zFx_kd hF 45 rfl, zFx_ln hF 45 rfl⟩
  · subst e; exact ⟨zFx_rf hF 41 2 rfl, zFx_kd hF 46 rfl, zFx_rf hF 46 0 rfl, zFx_kd hF 47 rfl, zFx_ln hF 47 rfl⟩
section
variable {B : Int} {G : zGr} {ax : List Int} {cur : Int} {R : zRst} {M : zM} {S : zS} {lnS v5 : Int} {scr : Int → Int} {P : (Int × zM × zS) ⊕ (zM × zS) → Prop}
theorem CX_slot {α : Type} {V : (Nat ⊕ α) → Int → Prop} {k : Nat → zM → zS → Option ((Nat ⊕ α) × zM × zS)} {s : Int} (h : clsW B G ax cur R M S) (hn : ¬ (0 ≤ s ∧ s ≤ 2) → V (.inl 2) cur) (hy : ∀ i : Nat, s = i → i < 3 → Ok (k (42 + 2 * i) M S) (clsX B G ax R S M V)) : Ok (zbx (F_X10_requireSlot s M S) (fun e M S => some (.inl e, M, S)) k) (clsX B G ax R S M V) := by
  unfold F_X10_requireSlot F_X10_requireSlot_J13
  by_cases q : s < 0
  · rw [if_pos q, zbx_inl]
    exact Ok.ret ⟨cur, h.zer _, keepM.refl, hn (by omega)⟩
  · rw [if_neg q]
    by_cases q2 : s < 3
    · rw [if_pos q2, zchk_pos ⟨by omega, q2⟩, zbx_inr]
      obtain ⟨i, hi⟩ : ∃ i : Nat, s = i := ⟨s.toNat, by omega⟩
      subst hi
      rw [(slt h.1 (show i < 3 by omega)).1]
      exact hy i rfl (by omega)
    · rw [if_neg q2, zbx_inl]
      exact Ok.ret ⟨cur, h.zer _, keepM.refl, hn (by omega)⟩
theorem CX_filled {α : Type} {M0 : zM} {V : (Nat ⊕ α) → Int → Prop} {k : Unit → zM → zS → Option ((Nat ⊕ α) × zM × zS)} {i : Nat} (h : clsW B G ax cur R M S) (hk : keepM S M0 M) (hi : i < 3) (hn : (R.2.2.2 i).1 < 0 → V (.inl 0) cur) (hy : 0 ≤ (R.2.2.2 i).1 → Ok (k () M S) (clsX B G ax R S M0 V)) : Ok (zbx (F_X10_requireFilled (42 + 2 * i) M S) (fun e M S => some (.inl e, M, S)) k) (clsX B G ax R S M0 V) := by
  have hs := h.2.2.2.2.2.2.2.2.2.2.2 i hi
  unfold F_X10_requireFilled
  rw [zchk_pos (slt h.1 hi).2.1, hs.1]
  rcases hs.2.2.2.1 with q | q
  · rw [if_pos q, zbx_inl]
    exact Ok.ret ⟨cur, h.zer _, hk, hn (by omega)⟩
  · rw [if_neg (by omega), zbx_inr]
    exact hy q.1
end
