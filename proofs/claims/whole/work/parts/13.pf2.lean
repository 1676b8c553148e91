/-! PURE 53: the law's steps: arrays stored to and made -/
def nrw (ty x : Int) : Int := if ty = 0 then zi2b x else if ty = 2 then x else zi2s x
def slU (f : Nat → Int × Int × (Int → Int)) (j : Nat) (e : Int × Int × (Int → Int)) : Nat → Int × Int × (Int → Int) := fun k => if k = j then e else f k
theorem slU_eq {f : Nat → Int × Int × (Int → Int)} {j : Nat} {e : Int × Int × (Int → Int)} : slU f j e j = e := if_pos rfl
theorem slU_ne {f : Nat → Int × Int × (Int → Int)} {j k : Nat} {e : Int × Int × (Int → Int)} (h : k ≠ j) : slU f j e k = f k := if_neg h
def slA (G : zGr) (ax : List Int) (cur : Int) (R : zRst) (f : Nat → Int × Int × (Int → Int)) : zAbs := (G, ax, cur, R.1, R.2.1, R.2.2.1, f)
def mnSl (G : zGr) (ax : List Int) (cur : Int) (R : zRst) (p : Int) (f : Nat → Int × Int × (Int → Int)) (c v : Int) (k : zAbs) : Prop := c = p ∧ v = 0 ∧ ((p ≠ 0 ∧ k = (G, ax, cur, R)) ∨ (p = 0 ∧ k = slA G ax cur R f))
theorem mnSl.fnl {G : zGr} {ax : List Int} {cur : Int} {R : zRst} {p : Int} {f : Nat → Int × Int × (Int → Int)} : fnlA (mnSl G ax cur R p f) := by
  rintro c v k c2 v2 k2 ⟨a0, a1, (⟨a2, a3⟩ | ⟨a2, a3⟩)⟩ ⟨b0, b1, (⟨b2, b3⟩ | ⟨b2, b3⟩)⟩
  · exact ⟨by omega, fun _ => by omega, by rw [a3, b3]⟩
  · exact absurd b2 a2
  · exact absurd a2 b2
  · exact ⟨by omega, fun _ => by omega, by rw [a3, b3]⟩
section
variable {B : Int} {G : zGr} {ax : List Int} {cur : Int} {R : zRst} {M : zM} {S : zS} {lnS v5 : Int} {scr : Int → Int} {P : (Int × zM × zS) ⊕ (zM × zS) → Prop}
theorem cls_sl {M1 : zM} {f : Nat → Int × Int × (Int → Int)} (hC : clsW B G ax cur R M S) (hf : cfr (fun b => 42 ≤ b ∧ b ≤ 47) S M M1) (hs : sltC f M1) : clsA B (slA G ax cur R f) M1 S ∧ keepM M M1 := by
  obtain ⟨t1, t2, t3, t4⟩ := hC.2.2.2.2.2.2.2.2.2.1
  exact hC.rest (R1 := (R.1, R.2.1, R.2.2.1, f)) hf (fun b a => by omega) rfl rfl ⟨by rw [hf.1 2 (by omega) (Or.inl (by decide))]; exact t1, t2, by rw [hf.1 3 (by omega) (Or.inl (by decide))]; exact t3, t4⟩ hs
theorem mdl_sl {M M1 : zM} {f : Nat → Int × Int × (Int → Int)} (hM : mdlW G ax cur R M) (hf : mfr (fun b => b = 67 ∨ b = 68 ∨ b = 69) (fun k => k = 0) M M1) (hs : sltM f M1) : mdlA (slA G ax cur R f) M1 ∧ keepC M M1 := by
  obtain ⟨m1, m2⟩ := hM.2.2.2.2.1
  exact hM.rest (R1 := (R.1, R.2.1, R.2.2.1, f)) (hf.mono (fun b q => Or.inr q) (fun k q => Or.inl q)) rfl rfl ⟨by rw [hf.2 11 (by decide) (by decide) (by decide)]; exact m1, by rw [hf.1 54 (by omega) (by decide) (by decide) (by decide)]; exact m2⟩ hs
theorem CA_slot {V : (Nat ⊕ Unit) → zAbs → Prop} {k : Nat → zM → zS → Option ((Nat ⊕ Unit) × zM × zS)} {s : Int} (h : clsW B G ax cur R M S) (hn : ¬ (0 ≤ s ∧ s ≤ 2) → V (.inl 2) (G, ax, cur, R)) (hy : ∀ i : Nat, s = i → i < 3 → Ok (k (42 + 2 * i) M S) (clsY B M V)) : Ok (zbx (F_X10_requireSlot s M S) (fun e M S => some (.inl e, M, S)) k) (clsY B M V) := by
  unfold F_X10_requireSlot F_X10_requireSlot_J13
  by_cases q : s < 0
  · rw [if_pos q, zbx_inl]
    exact Ok.ret ⟨(G, ax, cur, R), h.zer _, keepM.refl, hn (by omega)⟩
  · rw [if_neg q]
    by_cases q2 : s < 3
    · rw [if_pos q2, zchk_pos ⟨by omega, q2⟩, zbx_inr]
      obtain ⟨i, hi⟩ : ∃ i : Nat, s = i := ⟨s.toNat, by omega⟩
      subst hi
      rw [(slt h.1 (show i < 3 by omega)).1]
      exact hy i rfl (by omega)
    · rw [if_neg q2, zbx_inl]
      exact Ok.ret ⟨(G, ax, cur, R), h.zer _, keepM.refl, hn (by omega)⟩
theorem L_store (hC : clsW B G ax cur R M S) (hM : mdlW G ax cur R M) (hb : (0 : Int) ≤ w (v5 + 1) ∧ w (v5 + 1) < lnS) (hb2 : (0 : Int) ≤ w (v5 + 2) ∧ w (v5 + 2) < lnS) (hb3 : (0 : Int) ≤ w (v5 + 3) ∧ w (v5 + 3) < lnS) (hn : lxA B lnS scr v5 P) : Ok (F_L_law_J1651 lnS scr v5 M S) P := by
  unfold F_L_law_J1651
  simp only [zchk_pos hb, zchk_pos hb2, zchk_pos hb3]
  generalize scr (w (v5 + 1)) = s
  generalize scr (w (v5 + 2)) = i
  generalize scr (w (v5 + 3)) = x
  obtain ⟨f, hfd⟩ : ∃ f, f = R.2.2.2 := ⟨_, rfl⟩
  refine blkNA (B1 := B) (mnSl.fnl (G := G) (ax := ax) (cur := cur) (R := R) (p := prbA f s i) (f := slU f s.toNat ((f s.toNat).1, (f s.toNat).2.1, up (f s.toNat).2.2 i (nrw (f s.toNat).1 x)))) hC hM ?_ (fun M1 hst hM1 => ?_) hn
  · unfold F_L_store
    refine wrapNA (V := fun r k => (r = .inl 2 ∧ prbA f s i = 1 ∧ k = (G, ax, cur, R)) ∨ (r = .inl 0 ∧ prbA f s i = 2 ∧ k = (G, ax, cur, R)) ∨ (r = .inr () ∧ prbA f s i = 0 ∧ k = slA G ax cur R (slU f s.toNat ((f s.toNat).1, (f s.toNat).2.1, up (f s.toNat).2.2 i (nrw (f s.toNat).1 x))))) ?_ (fun e k M S q => ?_) (fun k q => ?_)
    · unfold F_X10_store
      refine CA_slot hC (fun q => Or.inl ⟨rfl, prbA_1 q, rfl⟩) (fun j hj hj3 => ?_)
      subst hj
      rw [Int.toNat_natCast]
      have hs := hC.2.2.2.2.2.2.2.2.2.2.2 j hj3
      rw [← hfd] at hs
      obtain ⟨t1, t2, t3, t4, t5⟩ := slt hC.1 hj3
      unfold F_X10_requireFilled
      rw [zchk_pos t2, hs.1]
      rcases hs.2.2.2.1 with q | q
      · rw [if_pos q, zbx_inl]
        exact Ok.ret ⟨(G, ax, cur, R), hC.zer _, keepM.refl, Or.inr (Or.inl ⟨rfl, prbA_2 hj3 (by omega), rfl⟩)⟩
      · rw [if_neg (by omega), zbx_inr, zchk_pos t2, hs.2.1]
        unfold F_X10_requireIndex F_X10_requireIndex_J9
        by_cases q1 : 0 ≤ i ∧ i < (f j).2.1
        · rw [if_neg (by omega), if_pos q1.2, zbx_inr, zchk_pos t2]
          have hput : F_X8_setNarrowed (42 + 2 * j) i x M S = some (zs M (43 + 2 * j) i (nrw (f j).1 x)) := by
            unfold F_X8_setNarrowed F_X8_setNarrowed_J26 nrw
            rw [zchk_pos t2, hs.1]
            have hp : ∀ v : Int, zchk (zkd S (42 + 2 * j) = 6) (zb1 (F_X6_put (zrf S (42 + 2 * j) 0) i v M S) fun M2 => some M2) = some (zs M (43 + 2 * j) i v) := fun v => by
              rw [zchk_pos t2, t3, FX6_put t4 q1.1 (by rw [t5]; have := hs.2.2.2.2; omega)]
              rfl
            by_cases e0 : (f j).1 = 0
            · rw [if_pos e0, if_pos e0]; exact hp _
            · rw [if_neg e0, if_neg e0, zchk_pos t2]
              by_cases e2 : (f j).1 = 2
              · rw [if_pos e2, if_pos e2]; exact hp _
              · rw [if_neg e2, if_neg e2]; exact hp _
          rw [hput]
          simp only [zb1_some]
          have hcf : cfr (fun b => 42 ≤ b ∧ b ≤ 47) S M (zs M (43 + 2 * j) i (nrw (f j).1 x)) := cfr.zs (by omega) (by omega)
          obtain ⟨c1, c2⟩ := cls_sl hC hcf (f := slU f j ((f j).1, (f j).2.1, up (f j).2.2 i (nrw (f j).1 x))) (fun k hk => by
            have hk2 := hC.2.2.2.2.2.2.2.2.2.2.2 k hk
            rw [← hfd] at hk2
            rw [zs_ne _ _ _ (show 42 + 2 * k ≠ 43 + 2 * j by omega)]
            by_cases e : k = j
            · subst e
              rw [slU_eq, zs_eq]
              refine ⟨hk2.1, hk2.2.1, fun y y0 y1 => ?_, hk2.2.2.2⟩
              by_cases ey : y = i
              · rw [ey, up_eq]; exact (up_eq _ _ _).symm
              · rw [up_ne _ _ ey, hk2.2.2.1 y y0 y1]; exact (up_ne _ _ ey).symm
            · rw [slU_ne e, zs_ne _ _ _ (show 43 + 2 * k ≠ 43 + 2 * j by omega)]
              exact hk2)
          exact Ok.ret ⟨_, c1, c2, Or.inr (Or.inr ⟨rfl, prbA_0 hj3 q.1 q1, rfl⟩)⟩
        · have hz : (if i < 0 then some (Sum.inl 2, M, zn S (99, 0)) else if i < (f j).2.1 then some (Sum.inr (), M, S) else some (Sum.inl 2, M, zn S (99, 0)) : Option ((Nat ⊕ Unit) × zM × zS)) = some (Sum.inl 2, M, zn S (99, 0)) := by
            by_cases z : i < 0
            · rw [if_pos z]
            · rw [if_neg z, if_neg (by omega)]
          rw [hz, zbx_inl]
          exact Ok.ret ⟨(G, ax, cur, R), hC.zer _, keepM.refl, Or.inl ⟨rfl, prbA_3 hj3 q.1 q1, rfl⟩⟩
    · rcases q with ⟨q1, q2, q3⟩ | ⟨q1, q2, q3⟩ | ⟨q1, q2, q3⟩
      · cases q1; exact ⟨1, rfl, q2.symm, rfl, Or.inl ⟨by omega, q3⟩⟩
      · cases q1; exact ⟨2, rfl, q2.symm, rfl, Or.inl ⟨by omega, q3⟩⟩
      · cases q1
    · rcases q with ⟨q1, q2, q3⟩ | ⟨q1, q2, q3⟩ | ⟨q1, q2, q3⟩
      · cases q1
      · cases q1
      · exact ⟨q2.symm, rfl, Or.inr ⟨q2, q3⟩⟩
  · have hsM := hM1.2.2.2.2.2.2
    unfold F_X11_store
    rw [FX11_problem hsM (sl_b hC), ← hfd]
    simp only [zb1_some]
    refine Ok.lett ?_
    rw [zs_at]
    refine Ok.ite (fun q => ?_) (fun q => Ok.ret ⟨(G, ax, cur, R), hM1.scr mscr.th, keepC.scr mscr.th, zs_at M1 48 0 _, rfl, Or.inl ⟨q, rfl⟩⟩)
    have hin : (0 ≤ s ∧ s ≤ 2) ∧ 0 ≤ (f s.toNat).1 ∧ 0 ≤ i ∧ i < (f s.toNat).2.1 := by
      unfold prbA at q
      by_cases q1 : 0 ≤ s ∧ s ≤ 2
      · rw [if_neg (by omega)] at q
        by_cases q2 : (f s.toNat).1 < 0
        · rw [if_pos q2] at q; omega
        · rw [if_neg q2] at q
          by_cases q3 : 0 ≤ i ∧ i < (f s.toNat).2.1
          · exact ⟨q1, by omega, q3⟩
          · rw [if_pos q3] at q; omega
      · rw [if_pos q1] at q; omega
    obtain ⟨j, hj⟩ : ∃ j : Nat, s = j := ⟨s.toNat, by omega⟩
    subst hj
    rw [Int.toNat_natCast] at hin ⊢
    have hj3 : j < 3 := by omega
    have hnj := sl_b hC j hj3
    have hty := (hC.2.2.2.2.2.2.2.2.2.2.2 j hj3).2.2.2.1
    rw [← hfd] at hnj hty hsM
    have e67 : zs M1 48 0 (prbA f j i) 67 j = (f j).1 := by rw [zs_ne _ _ _ (by decide)]; exact (hsM j hj3).1
    rw [e67, w_id (a := 20 * (j : Int) + i) (by omega)]
    have hp : ∀ v : Int, v = nrw (f j).1 x → Ok (F_X11_store_J57 (20 * (j : Int) + i) v (zs M1 48 0 (prbA f j i))) (fun r => ∃ a, mdlA a r ∧ keepC M1 r ∧ mnSl G ax cur R (prbA f j i) (slU f j ((f j).1, (f j).2.1, up (f j).2.2 i (nrw (f j).1 x))) (r 48 0) 0 a) := fun v hv => by
      subst hv
      unfold F_X11_store_J57
      have hmf : mfr (fun b => b = 67 ∨ b = 68 ∨ b = 69) (fun k => k = 0) M1 (zs (zs M1 48 0 (prbA f j i)) 69 (20 * (j : Int) + i) (nrw (f j).1 x)) := mfr.trans (M1 := zs M1 48 0 (prbA f j i)) (mfr.fld rfl) (mfr.cell (Or.inr (Or.inr rfl)) (by decide))
      obtain ⟨c1, c2⟩ := mdl_sl hM1 hmf (f := slU f j ((f j).1, (f j).2.1, up (f j).2.2 i (nrw (f j).1 x))) (fun k hk => by
        obtain ⟨d1, d2, d3⟩ := hsM k hk
        rw [zs_ne (b := 67) _ _ _ (by decide), zs_ne (b := 67) _ _ _ (by decide), zs_ne (b := 68) _ _ _ (by decide), zs_ne (b := 68) _ _ _ (by decide)]
        have e69 : zs M1 48 0 (prbA f j i) 69 = M1 69 := zs_ne _ _ _ (by decide)
        by_cases e : k = j
        · subst e
          rw [slU_eq]
          refine ⟨d1, d2, fun y y0 y1 => ?_⟩
          by_cases ey : y = i
          · rw [ey, zs_at]; exact (up_eq _ _ _).symm
          · rw [zs_off _ _ (Or.inr (by omega)), e69, d3 y y0 y1]; exact (up_ne _ _ ey).symm
        · rw [slU_ne e]
          refine ⟨d1, d2, fun y y0 y1 => ?_⟩
          rw [zs_off _ _ (Or.inr (by omega)), e69]
          exact d3 y y0 y1)
      refine Ok.chk ⟨by omega, by omega⟩ (Ok.lett (Ok.ret ⟨_, c1, c2, ?_, rfl, Or.inr ⟨q, rfl⟩⟩))
      rw [zs_ne _ _ _ (by decide)]
      exact zs_at M1 48 0 _
    refine Ok.chk ⟨by omega, by omega⟩ (Ok.ite (fun z => hp _ (by unfold nrw; rw [if_pos z])) (fun z => Ok.chk ⟨by omega, by omega⟩ (Ok.ite (fun z1 => hp _ (by unfold nrw; rw [if_neg z, if_neg (by omega)])) (fun z1 => hp _ (by unfold nrw; rw [if_neg z, if_pos (by omega)])))))
end
