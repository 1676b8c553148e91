/-! PURE 53: the law's steps: arrays stored to and made -/
def nrw (ty x : Int) : Int := if ty = 0 then zi2b x else if ty = 2 then x else zi2s x
def slU (f : Nat → Int × Int × (Int → Int)) (j : Nat) (e : Int × Int × (Int → Int)) : Nat → Int × Int × (Int → Int) := fun k => if k = j then e else f k
theorem slU_eq {f : Nat → Int × Int × (Int → Int)} {j : Nat} {e : Int × Int × (Int → Int)} : slU f j e j = e := if_pos rfl
theorem slU_ne {f : Nat → Int × Int × (Int → Int)} {j k : Nat} {e : Int × Int × (Int → Int)} (h : k ≠ j) : slU f j e k = f k := if_neg h
def slA (G : zGr) (ax : List Int) (cur : Int) (R : zRst) (f : Nat → Int × Int × (Int → Int)) : zAbs := (G, ax, cur, R.1, R.2.1, R.2.2.1, f)
section
variable {B : Int} {G : zGr} {ax : List Int} {cur : Int} {R : zRst} {M : zM} {S : zS} {lnS v5 : Int} {scr : Int → Int} {P : (Int × zM × zS) ⊕ (zM × zS) → Prop}
theorem cls_sl {M1 : zM} {f : Nat → Int × Int × (Int → Int)} (hC : clsW B G ax cur R M S) (hf : cfr (fun b => 42 ≤ b ∧ b ≤ 47) S M M1) (hs : sltC f M1) : clsA B (slA G ax cur R f) M1 S ∧ keepM S M M1 := by
  obtain ⟨t1, t2, t3, t4⟩ := hC.2.2.2.2.2.2.2.2.2.1
  exact hC.rest (R1 := (R.1, R.2.1, R.2.2.1, f)) hf (fun b a => by omega) rfl rfl ⟨by rw [hf.1 2 (by omega) (Or.inl (by decide))]; exact t1, t2, by rw [hf.1 3 (by omega) (Or.inl (by decide))]; exact t3, t4⟩ hs
theorem CA_slot {V : (Nat ⊕ Unit) → zAbs → Prop} {k : Nat → zM → zS → Option ((Nat ⊕ Unit) × zM × zS)} {s : Int} (h : clsW B G ax cur R M S) (hn : ¬ (0 ≤ s ∧ s ≤ 2) → V (.inl 2) (G, ax, cur, R)) (hy : ∀ i : Nat, s = i → i < 3 → Ok (k (42 + 2 * i) M S) (clsY B S M V)) : Ok (zbx (F_X10_requireSlot s M S) (fun e M S => some (.inl e, M, S)) k) (clsY B S M V) := by
  unfold F_X10_requireSlot F_X10_requireSlot_J13
  by_cases q : s < 0
  · rw [if_pos q, zbx_inl]
    exact Ok.ret ⟨(G, ax, cur, R), h.zer _, keepM.refl, hn (by omega)⟩
  · rw [if_neg q]
    by_cases q2 : s < 3
    · rw [if_pos q2, zchk_pos ⟨by omega, q2⟩, zbx_inr]
      obtain ⟨i, hi⟩ : ∃ i : Nat, s = i := ⟨s.toNat, by omega⟩
      subst hi
      rw [(slt h.1 (show i < 3 by omega)).1]
      exact hy i rfl (by omega)
    · rw [if_neg q2, zbx_inl]
      exact Ok.ret ⟨(G, ax, cur, R), h.zer _, keepM.refl, hn (by omega)⟩
end
