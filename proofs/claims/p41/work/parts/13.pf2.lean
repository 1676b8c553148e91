/-! PURE 53: the law's steps: arrays stored to and made -/
section
variable {B : Int} {G : zGr} {ax : List Int} {cur : Int} {R : zRst} {M : zM} {S : zS} {lnS v5 : Int} {scr : Int → Int} {P : (Int × zM × zS) ⊕ (zM × zS) → Prop}
theorem CA_slot {V : (Nat ⊕ Unit) → zAbs → Prop} {k : Nat → zM → zS → Option ((Nat ⊕ Unit) × zM × zS)} {s : Int} (h : clsW B G ax cur R M S) (hn : ¬ (0 ≤ s ∧ s ≤ 2) → V (.inl 2) (G, ax, cur, R)) (hy : ∀ i : Nat, s = i → i < 3 → Ok (k (42 + 2 * i) M S) (clsY B S M V)) : Ok (zbx (F_X10_requireSlot s M S) (fun e M S => some (.inl e, M, S)) k) (clsY B S M V) := by
  unfold F_X10_requireSlot F_X10_requireSlot_J13
  by_cases q : s < 0
  · rw [if_pos q, zbx_inl]
    exact Ok.ret ⟨(G, ax, cur, R), h.zer _, keepM.refl, hn (by omega)⟩
  · rw [if_neg q]
    by_cases q2 : s < 3
    · rw [if_pos q2, zchk_pos ⟨by omega, q2⟩, zbx_inr]
      obtain ⟨i, hi⟩ : ∃ i : Nat, s = i := ⟨s.toNat, by omega⟩
      subst hi
      rw [(slt h.1 (show i < 3 by omega)).1]
      exact hy i rfl (by omega)
    · rw [if_neg q2, zbx_inl]
      exact Ok.ret ⟨(G, ax, cur, R), h.zer _, keepM.refl, hn (by omega)⟩
end
