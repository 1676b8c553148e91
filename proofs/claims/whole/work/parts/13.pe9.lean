/-! PURE 51: the law's steps: arrays; steps that change more than the word -/
theorem slt {S : zS} (hF : zFx S) {i : Nat} (hi : i < 3) : zrf S 41 (i : Int) = 42 + 2 * i ∧ zkd S (42 + 2 * i) = 6 ∧ zrf S (42 + 2 * i) 0 = 43 + 2 * i ∧ zkd S (43 + 2 * i) = 20 ∧ zlen S (43 + 2 * i) = 20 := by
  rcases (show i = 0 ∨ i = 1 ∨ i = 2 by omega) with e | e | e
  · subst e; exact ⟨zFx_rf hF 41 0 rfl, zFx_kd hF 42 rfl, zFx_rf hF 42 0 rfl, zFx_kd hF 43 rfl, zFx_ln hF 43 rfl⟩
  · subst e; exact ⟨zFx_rf hF 41 1 rfl, zFx_kd hF 44 rfl, zFx_rf hF 44 0 rfl, zFx_kd hF 45 rfl, zFx_ln hF 45 rfl⟩
  · subst e; exact ⟨zFx_rf hF 41 2 rfl, zFx_kd hF 46 rfl, zFx_rf hF 46 0 rfl, zFx_kd hF 47 rfl, zFx_ln hF 47 rfl⟩
def mnF (cur : Int) (a : Int × Int) (c v k : Int) : Prop := k = cur ∧ c = a.1 ∧ (c = 0 → v = a.2)
theorem mnF.fnl {cur : Int} {a : Int × Int} : fnl (mnF cur a) := by
  rintro c v k c2 v2 k2 ⟨a1, a2, a3⟩ ⟨b1, b2, b3⟩
  exact ⟨by omega, fun q => by rw [a3 q, b3 (by omega)], by omega⟩
/-- what stands in the way of a place in an array: as the reference numbers it -/
def prbA (f : Nat → Int × Int × (Int → Int)) (s i : Int) : Int := if ¬ (0 ≤ s ∧ s ≤ 2) then 1 else if (f s.toNat).1 < 0 then 2 else if ¬ (0 ≤ i ∧ i < (f s.toNat).2.1) then 1 else 0
def ansE (f : Nat → Int × Int × (Int → Int)) (s i : Int) : Int × Int := (prbA f s i, (f s.toNat).2.2 i)
section
variable {B : Int} {G : zGr} {ax : List Int} {cur : Int} {R : zRst} {M : zM} {S : zS} {lnS v5 : Int} {scr : Int → Int} {P : (Int × zM × zS) ⊕ (zM × zS) → Prop}
theorem CX_slot {α : Type} {V : (Nat ⊕ α) → Int → Prop} {k : Nat → zM → zS → Option ((Nat ⊕ α) × zM × zS)} {s : Int} (h : clsW B G ax cur R M S) (hn : ¬ (0 ≤ s ∧ s ≤ 2) → V (.inl 2) cur) (hy : ∀ i : Nat, s = i → i < 3 → Ok (k (42 + 2 * i) M S) (clsX B G ax R M V)) : Ok (zbx (F_X10_requireSlot s M S) (fun e M S => some (.inl e, M, S)) k) (clsX B G ax R M V) := by
  unfold F_X10_requireSlot F_X10_requireSlot_J13
  by_cases q : s < 0
  · rw [if_pos q, zbx_inl]
    exact Ok.ret ⟨cur, h.zer _, keepM.refl, hn (by omega)⟩
  · rw [if_neg q]
    by_cases q2 : s < 3
    · rw [if_pos q2, zchk_pos ⟨by omega, q2⟩, zbx_inr]
      obtain ⟨i, hi⟩ : ∃ i : Nat, s = i := ⟨s.toNat, by omega⟩
      subst hi
      rw [(slt h.1 (show i < 3 by omega)).1]
      exact hy i rfl (by omega)
    · rw [if_neg q2, zbx_inl]
      exact Ok.ret ⟨cur, h.zer _, keepM.refl, hn (by omega)⟩
theorem CX_filled {α : Type} {M0 : zM} {V : (Nat ⊕ α) → Int → Prop} {k : Unit → zM → zS → Option ((Nat ⊕ α) × zM × zS)} {i : Nat} (h : clsW B G ax cur R M S) (hk : keepM M0 M) (hi : i < 3) (hn : (R.2.2.2 i).1 < 0 → V (.inl 0) cur) (hy : 0 ≤ (R.2.2.2 i).1 → Ok (k () M S) (clsX B G ax R M0 V)) : Ok (zbx (F_X10_requireFilled (42 + 2 * i) M S) (fun e M S => some (.inl e, M, S)) k) (clsX B G ax R M0 V) := by
  have hs := h.2.2.2.2.2.2.2.2.2.2.2 i hi
  unfold F_X10_requireFilled
  rw [zchk_pos (slt h.1 hi).2.1, hs.1]
  rcases hs.2.2.2.1 with q | q
  · rw [if_pos q, zbx_inl]
    exact Ok.ret ⟨cur, h.zer _, hk, hn (by omega)⟩
  · rw [if_neg (by omega), zbx_inr]
    exact hy q.1
theorem prbA_1 {f : Nat → Int × Int × (Int → Int)} {s i : Int} (h : ¬ (0 ≤ s ∧ s ≤ 2)) : prbA f s i = 1 := by unfold prbA; rw [if_pos h]
theorem prbA_2 {f : Nat → Int × Int × (Int → Int)} {s : Nat} {i : Int} (h : s < 3) (h2 : (f s).1 < 0) : prbA f s i = 2 := by unfold prbA; rw [if_neg (by omega), Int.toNat_natCast, if_pos h2]
theorem prbA_3 {f : Nat → Int × Int × (Int → Int)} {s : Nat} {i : Int} (h : s < 3) (h2 : 0 ≤ (f s).1) (h3 : ¬ (0 ≤ i ∧ i < (f s).2.1)) : prbA f s i = 1 := by unfold prbA; rw [if_neg (by omega), Int.toNat_natCast, if_neg (by omega), if_pos h3]
theorem prbA_0 {f : Nat → Int × Int × (Int → Int)} {s : Nat} {i : Int} (h : s < 3) (h2 : 0 ≤ (f s).1) (h3 : 0 ≤ i ∧ i < (f s).2.1) : prbA f s i = 0 := by unfold prbA; rw [if_neg (by omega), Int.toNat_natCast, if_neg (by omega), if_neg (by omega)]
theorem FX11_isSlot {s : Int} : F_X11_isSlot s = some (if 0 ≤ s ∧ s ≤ 2 then 1 else 0) := by
  unfold F_X11_isSlot
  rw [FX11_isIn]
  simp only [zb1_some]
  by_cases q : 0 ≤ s ∧ s ≤ 2
  · rw [if_pos q]; exact zchk_pos (by decide) _
  · rw [if_neg q]; exact zchk_pos (by decide) _
theorem FX11_problem {M1 : zM} {s i : Int} (hM : sltM R.2.2.2 M1) (hn : ∀ j : Nat, j < 3 → 0 ≤ (R.2.2.2 j).2.1 ∧ (R.2.2.2 j).2.1 ≤ 20) : F_X11_problem s i M1 = some (prbA R.2.2.2 s i) := by
  unfold F_X11_problem
  rw [FX11_isSlot]
  simp only [zb1_some]
  by_cases q : 0 ≤ s ∧ s ≤ 2
  · rw [if_pos q, if_neg (by decide)]
    obtain ⟨j, hj⟩ : ∃ j : Nat, s = j := ⟨s.toNat, by omega⟩
    subst hj
    obtain ⟨e1, e2, _⟩ := hM j (by omega)
    have hnj := hn j (by omega)
    rw [zchk_pos ⟨by omega, by omega⟩, e1]
    by_cases q1 : (R.2.2.2 j).1 < 0
    · rw [if_pos q1, prbA_2 (by omega) q1]
    · rw [if_neg q1, zchk_pos ⟨by omega, by omega⟩, e2, FX11_isIn, w_id (a := (R.2.2.2 j).2.1 - 1) (by omega)]
      simp only [zb1_some]
      by_cases q2 : 0 ≤ i ∧ i ≤ (R.2.2.2 j).2.1 - 1
      · rw [if_pos q2, if_neg (by decide), prbA_0 (by omega) (by omega) ⟨q2.1, by omega⟩]
      · rw [if_neg q2, if_pos rfl, prbA_3 (by omega) (by omega) (by omega)]
  · rw [if_neg q, if_pos rfl, prbA_1 q]
theorem sl_b (h : clsW B G ax cur R M S) : ∀ j : Nat, j < 3 → 0 ≤ (R.2.2.2 j).2.1 ∧ (R.2.2.2 j).2.1 ≤ 20 := fun j hj => (h.2.2.2.2.2.2.2.2.2.2.2 j hj).2.2.2.2
theorem L_element (hC : clsW B G ax cur R M S) (hM : mdlW G ax cur R M) (hb : (0 : Int) ≤ w (v5 + 1) ∧ w (v5 + 1) < lnS) (hb2 : (0 : Int) ≤ w (v5 + 2) ∧ w (v5 + 2) < lnS) (hn : lxt B G ax R lnS scr v5 P) : Ok (F_L_law_J1711 lnS scr v5 M S) P := by
  unfold F_L_law_J1711 F_L_law_J1776
  simp only [zchk_pos hb, zchk_pos hb2]
  generalize scr (w (v5 + 1)) = s
  generalize scr (w (v5 + 2)) = i
  refine blkV (mnF.fnl (cur := cur) (a := ansE R.2.2.2 s i)) hC hM ?_ (fun M1 hst hM1 => MX hM1 ?_) hn
  · unfold F_L_element
    refine wrapV (V := fun r k => k = cur ∧ ((r = .inl 2 ∧ prbA R.2.2.2 s i = 1) ∨ (r = .inl 0 ∧ prbA R.2.2.2 s i = 2) ∨ (r = .inr ((R.2.2.2 s.toNat).2.2 i) ∧ prbA R.2.2.2 s i = 0))) ?_ (fun e k M S ⟨q0, q⟩ => ?_) (fun a k ⟨q0, q⟩ => ?_)
    · unfold F_X10_element
      refine CX_slot hC (fun q => ⟨rfl, Or.inl ⟨rfl, prbA_1 q⟩⟩) (fun j hj hj3 => ?_)
      subst hj
      refine CX_filled hC keepM.refl hj3 (fun q => ⟨rfl, Or.inr (Or.inl ⟨rfl, prbA_2 hj3 q⟩)⟩) (fun q => ?_)
      have hs := hC.2.2.2.2.2.2.2.2.2.2.2 j hj3
      obtain ⟨t1, t2, t3, t4, t5⟩ := slt hC.1 hj3
      rw [zchk_pos t2, hs.2.1]
      refine CX_i hC keepM.refl (fun q1 => ⟨rfl, Or.inl ⟨rfl, prbA_3 hj3 q q1⟩⟩) (fun q1 => ?_)
      have hn20 := hs.2.2.2.2
      rw [zchk_pos t2, t3, FX6_at t4 q1.1 (by rw [t5]; omega), hs.2.2.1 i q1.1 (by omega)]
      simp only [zb1_some]
      exact Ok.ret ⟨cur, hC, keepM.refl, rfl, Or.inr (Or.inr ⟨by rw [Int.toNat_natCast], prbA_0 hj3 q q1⟩)⟩
    · rcases q with ⟨q1, q2⟩ | ⟨q1, q2⟩ | ⟨q1, q2⟩
      · cases q1; exact ⟨1, rfl, fun v => ⟨q0, q2.symm, fun z => absurd z (by decide)⟩⟩
      · cases q1; exact ⟨2, rfl, fun v => ⟨q0, q2.symm, fun z => absurd z (by decide)⟩⟩
      · cases q1
    · rcases q with ⟨q1, q2⟩ | ⟨q1, q2⟩ | ⟨q1, q2⟩
      · cases q1
      · cases q1
      · cases q1; exact ⟨q0, q2.symm, fun _ => rfl⟩
  · have hsM := hM1.2.2.2.2.2.2
    unfold F_X11_element
    rw [FX11_problem hsM (sl_b hC)]
    simp only [zb1_some]
    refine Ok.lett ?_
    rw [zs_at]
    refine Ok.ite (fun q => ?_) (fun q => Ok.ret ⟨mscr.th, rfl, zs_at M1 48 0 _, fun z => absurd ((zs_at M1 48 0 _).symm.trans z) q⟩)
    have hin : (0 ≤ s ∧ s ≤ 2) ∧ 0 ≤ (R.2.2.2 s.toNat).1 ∧ 0 ≤ i ∧ i < (R.2.2.2 s.toNat).2.1 := by
      unfold prbA at q
      by_cases q1 : 0 ≤ s ∧ s ≤ 2
      · rw [if_neg (by omega)] at q
        by_cases q2 : (R.2.2.2 s.toNat).1 < 0
        · rw [if_pos q2] at q; omega
        · rw [if_neg q2] at q
          by_cases q3 : 0 ≤ i ∧ i < (R.2.2.2 s.toNat).2.1
          · exact ⟨q1, by omega, q3⟩
          · rw [if_pos q3] at q; omega
      · rw [if_pos q1] at q; omega
    obtain ⟨j, hj⟩ : ∃ j : Nat, s = j := ⟨s.toNat, by omega⟩
    subst hj
    rw [Int.toNat_natCast] at hin
    have hnj := sl_b hC j (by omega)
    rw [w_id (a := 20 * (j : Int) + i) (by omega)]
    refine Ok.chk ⟨by omega, by omega⟩ (Ok.ret ⟨mscr.th, rfl, zs_at M1 48 0 _, fun _ => ?_⟩)
    show zs M1 48 0 (prbA R.2.2.2 j i) 69 (20 * (j : Int) + i) = (R.2.2.2 (j : Int).toNat).2.2 i
    rw [zs_ne _ _ _ (by decide), (hsM j (by omega)).2.2 i hin.2.2.1 (by omega), Int.toNat_natCast]
end
