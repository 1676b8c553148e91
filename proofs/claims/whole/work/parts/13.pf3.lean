/-! PURE 54: the law's steps: an array made -/
def prbN (s ty n : Int) : Int := if ¬ (0 ≤ s ∧ s ≤ 2) then 1 else if ¬ ((0 ≤ ty ∧ ty ≤ 2) ∧ 0 ≤ n ∧ n ≤ 20) then 2 else 0
section
variable {B : Int} {G : zGr} {ax : List Int} {cur : Int} {R : zRst} {M : zM} {S : zS} {lnS v5 : Int} {scr : Int → Int} {P : (Int × zM × zS) ⊕ (zM × zS) → Prop}
theorem L_allocate (hC : clsW B G ax cur R M S) (hM : mdlW G ax cur R M) (hb : (0 : Int) ≤ w (v5 + 1) ∧ w (v5 + 1) < lnS) (hb2 : (0 : Int) ≤ w (v5 + 2) ∧ w (v5 + 2) < lnS) (hb3 : (0 : Int) ≤ w (v5 + 3) ∧ w (v5 + 3) < lnS) (hn : lxA B lnS scr v5 P) : Ok (F_L_law_J1591 lnS scr v5 M S) P := by
  unfold F_L_law_J1591
  simp only [zchk_pos hb, zchk_pos hb2, zchk_pos hb3]
  generalize scr (w (v5 + 1)) = s
  generalize scr (w (v5 + 2)) = ty
  generalize scr (w (v5 + 3)) = n
  obtain ⟨f, hfd⟩ : ∃ f, f = R.2.2.2 := ⟨_, rfl⟩
  refine blkNA (B1 := B) (mnSl.fnl (G := G) (ax := ax) (cur := cur) (R := R) (p := prbN s ty n) (f := slU f s.toNat (ty, n, fun _ => 0))) hC hM ?_ (fun M1 hst hM1 => ?_) hn
  · unfold F_L_allocate
    refine wrapNA (V := fun r k => (r = .inl 2 ∧ prbN s ty n = 1 ∧ k = (G, ax, cur, R)) ∨ (r = .inl 1 ∧ prbN s ty n = 2 ∧ k = (G, ax, cur, R)) ∨ (r = .inr () ∧ prbN s ty n = 0 ∧ k = slA G ax cur R (slU f s.toNat (ty, n, fun _ => 0)))) ?_ (fun e k M S q => ?_) (fun k q => ?_)
    · unfold F_X10_allocate F_X10_allocate_J26
      refine CA_slot hC (fun q => Or.inl ⟨rfl, by unfold prbN; rw [if_pos q], rfl⟩) (fun j hj hj3 => ?_)
      subst hj
      rw [Int.toNat_natCast]
      obtain ⟨t1, t2, t3, t4, t5⟩ := slt hC.1 hj3
      have bad : ¬ ((0 ≤ ty ∧ ty ≤ 2) ∧ 0 ≤ n ∧ n ≤ 20) → Ok (some ((Sum.inl 1 : Nat ⊕ Unit), M, zn S (99, 0))) (clsY B M (fun r k => (r = .inl 2 ∧ prbN j ty n = 1 ∧ k = (G, ax, cur, R)) ∨ (r = .inl 1 ∧ prbN j ty n = 2 ∧ k = (G, ax, cur, R)) ∨ (r = .inr () ∧ prbN j ty n = 0 ∧ k = slA G ax cur R (slU f j (ty, n, fun _ => 0))))) := fun q => Ok.ret ⟨(G, ax, cur, R), hC.zer _, keepM.refl, Or.inr (Or.inl ⟨rfl, by unfold prbN; rw [if_neg (by omega), if_pos q], rfl⟩)⟩
      refine Ok.ite (fun c => bad (by omega)) (fun c1 => Ok.ite (fun c => bad (by omega)) (fun c2 => Ok.ite (fun c => bad (by omega)) (fun c3 => Ok.ite (fun c => bad (by omega)) (fun c4 => ?_))))
      refine Ok.chk t2 ?_
      have hok : (0 ≤ ty ∧ ty ≤ 2) ∧ 0 ≤ n ∧ n ≤ 20 := by omega
      refine Ok.b1 (Q := fun M6 => (∀ i : Int, 0 ≤ i → i < 20 → M6 (43 + 2 * j) i = 0) ∧ M6 (42 + 2 * j) 1 = ty ∧ M6 (42 + 2 * j) 2 = n ∧ ∀ b, b ≠ 42 + 2 * j → b ≠ 43 + 2 * j → M6 b = M b) ?_ (fun M6 ⟨a1, a2, a3, a4⟩ => ?_)
      · unfold F_X8_renew
        refine Ok.chk t2 (Ok.lett (Ok.chk t2 (Ok.lett (Ok.chk t2 ?_))))
        rw [t3]
        refine Ok.b1 (FJ7_fill t4 (by rw [t5]; decide) (by rw [t5]; decide)) (fun M6 ⟨b1, b2⟩ => Ok.ret ⟨fun i h0 h1 => b1 i h0 (by rw [t5]; exact h1), ?_, ?_, fun b hb1 hb2 => ?_⟩)
        · rw [b2 _ (by omega), zs_off _ _ (Or.inr (by decide)), zs_at]
        · rw [b2 _ (by omega), zs_at]
        · rw [b2 b hb2, zs_ne _ _ _ hb1, zs_ne _ _ _ hb1]
      · have hcf : cfr (fun b => 42 ≤ b ∧ b ≤ 47) S M M6 := ⟨fun b hb _ => a4 b (by omega) (by omega), fun p L R pr q => by
          have hp := q.1.1
          exact q.same (a4 _ (by omega) (by omega)) (a4 _ (by omega) (by omega)) (a4 _ (by omega) (by omega)) (a4 _ (by omega) (by omega))⟩
        obtain ⟨c1, c2⟩ := cls_sl hC hcf (f := slU f j (ty, n, fun _ => 0)) (fun k hk => by
          have hk2 := hC.2.2.2.2.2.2.2.2.2.2.2 k hk
          rw [← hfd] at hk2
          by_cases e : k = j
          · subst e
            rw [slU_eq]
            exact ⟨a2, a3, a1, Or.inr hok.1, hok.2⟩
          · rw [slU_ne e, a4 _ (by omega) (by omega), a4 _ (by omega) (by omega)]
            exact hk2)
        exact Ok.ret ⟨_, c1, c2, Or.inr (Or.inr ⟨rfl, by unfold prbN; rw [if_neg (by omega), if_neg (by omega)], rfl⟩)⟩
    · rcases q with ⟨q1, q2, q3⟩ | ⟨q1, q2, q3⟩ | ⟨q1, q2, q3⟩
      · cases q1; exact ⟨1, rfl, q2.symm, rfl, Or.inl ⟨by omega, q3⟩⟩
      · cases q1; exact ⟨2, rfl, q2.symm, rfl, Or.inl ⟨by omega, q3⟩⟩
      · cases q1
    · rcases q with ⟨q1, q2, q3⟩ | ⟨q1, q2, q3⟩ | ⟨q1, q2, q3⟩
      · cases q1
      · cases q1
      · exact ⟨q2.symm, rfl, Or.inr ⟨q2, q3⟩⟩
  · have hsM := hM1.2.2.2.2.2.2
    rw [← hfd] at hsM
    have bad : ∀ c : Int, c ≠ 0 → prbN s ty n = c → Ok (F_X11_allocate_J36 s ty n c M1) (fun r => ∃ a, mdlA a r ∧ keepC M1 r ∧ mnSl G ax cur R (prbN s ty n) (slU f s.toNat (ty, n, fun _ => 0)) (r 48 0) 0 a) := fun c hc hp => by
      unfold F_X11_allocate_J36 F_X11_allocate_J89
      refine Ok.lett ?_
      rw [zs_at]
      exact Ok.neg hc (Ok.ret ⟨(G, ax, cur, R), hM1.scr mscr.th, keepC.scr mscr.th, by rw [zs_at]; exact hp.symm, rfl, Or.inl ⟨by omega, rfl⟩⟩)
    unfold F_X11_allocate F_X11_allocate_J31
    rw [FX11_isSlot]
    simp only [zb1_some]
    by_cases q : 0 ≤ s ∧ s ≤ 2
    · rw [if_pos q]
      refine Ok.neg (by decide) ?_
      rw [FX11_isIn]
      simp only [zb1_some]
      by_cases q1 : 0 ≤ ty ∧ ty ≤ 2
      · rw [if_pos q1]
        refine Ok.neg (by decide) ?_
        rw [FX11_isIn]
        simp only [zb1_some]
        by_cases q2 : 0 ≤ n ∧ n ≤ 20
        · rw [if_pos q2]
          refine Ok.neg (by decide) ?_
          have hp0 : prbN s ty n = 0 := by unfold prbN; rw [if_neg (by omega), if_neg (by omega)]
          obtain ⟨j, hj⟩ : ∃ j : Nat, s = j := ⟨s.toNat, by omega⟩
          subst hj
          rw [Int.toNat_natCast]
          have hj3 : j < 3 := by omega
          unfold F_X11_allocate_J36
          refine Ok.lett ?_
          rw [zs_at]
          refine Ok.pos rfl (Ok.chk ⟨by omega, by omega⟩ (Ok.lett (Ok.chk ⟨by omega, by omega⟩ (Ok.lett ?_))))
          have hf0 : mfr (fun b => b = 67 ∨ b = 68 ∨ b = 69) (fun k => k = 0) M1 (zs (zs (zs M1 48 0 0) 67 j ty) 68 j n) := mfr.trans (M1 := zs (zs M1 48 0 0) 67 j ty) (mfr.trans (M1 := zs M1 48 0 0) (mfr.fld rfl) (mfr.cell (Or.inl rfl) (by decide))) (mfr.cell (Or.inr (Or.inl rfl)) (by decide))
          have k0 : zs (zs (zs M1 48 0 0) 67 j ty) 68 j n 48 0 = 0 := by rw [zs_ne _ _ _ (by decide), zs_ne _ _ _ (by decide), zs_at]
          have k67 : zs (zs (zs M1 48 0 0) 67 j ty) 68 j n 67 = up (M1 67) j ty := by rw [zs_ne _ _ _ (by decide), zs_eq, zs_ne _ _ _ (by decide)]
          have k68 : zs (zs (zs M1 48 0 0) 67 j ty) 68 j n 68 = up (M1 68) j n := by rw [zs_eq, zs_ne _ _ _ (by decide), zs_ne _ _ _ (by decide)]
          have k69 : zs (zs (zs M1 48 0 0) 67 j ty) 68 j n 69 = M1 69 := by rw [zs_ne _ _ _ (by decide), zs_ne _ _ _ (by decide), zs_ne _ _ _ (by decide)]
          generalize zs (zs (zs M1 48 0 0) 67 j ty) 68 j n = M2 at hf0 k0 k67 k68 k69 ⊢
          unfold F_X11_allocate_L63
          refine Ok.loop (fun z => ∃ y : Nat, z.1 = y ∧ y ≤ 20 ∧ (∀ b, b ≠ 69 → z.2 b = M2 b) ∧ ∀ t : Int, z.2 69 t = if 20 * (j : Int) ≤ t ∧ t < 20 * (j : Int) + y then 0 else M2 69 t) (fun z => (100 - z.1).toNat) (fun M3 => (∀ b, b ≠ 69 → M3 b = M2 b) ∧ ∀ t : Int, M3 69 t = if 20 * (j : Int) ≤ t ∧ t < 20 * (j : Int) + 20 then 0 else M2 69 t) ⟨0, rfl, by omega, fun _ _ => rfl, fun t => by show M2 69 t = _; rw [if_neg (by omega)]⟩ (by show (100 - (0 : Int)).toNat < zN; decide) ?_ (fun M3 ⟨c1, c2⟩ => ?_)
          · rintro ⟨v4, M3⟩ ⟨y, i1, i2, i3, i4⟩
            dsimp only at i1 i2 i3 i4 ⊢
            subst i1
            unfold F_X11_allocate_B63
            refine Ok.ite (fun c => ?_) (fun c => Ok.ret ⟨i3, fun t => by rw [i4 t, show (y : Int) = 20 by omega]⟩)
            rw [w_id (a := 20 * (j : Int) + y) (by omega), w_id (a := (y : Int) + 1) (by omega)]
            refine Ok.chk ⟨by omega, by omega⟩ (Ok.lett (Ok.lett (Ok.ret ⟨⟨y + 1, by show (y : Int) + 1 = _; omega, by omega, fun b hb => by show zs M3 69 _ 0 b = _; rw [zs_ne _ _ _ hb]; exact i3 b hb, fun t => ?_⟩, by show (100 - ((y : Int) + 1)).toNat < (100 - (y : Int)).toNat; omega⟩)))
            show zs M3 69 (20 * (j : Int) + y) 0 69 t = _
            by_cases e : t = 20 * (j : Int) + y
            · rw [e, zs_at, if_pos (by omega)]
            · rw [zs_off _ _ (Or.inr e), i4 t]
              by_cases e2 : 20 * (j : Int) ≤ t ∧ t < 20 * (j : Int) + y
              · rw [if_pos e2, if_pos (by omega)]
              · rw [if_neg e2, if_neg (by omega)]
          · unfold F_X11_allocate_J89
            have hmf : mfr (fun b => b = 67 ∨ b = 68 ∨ b = 69) (fun k => k = 0) M1 M3 := hf0.trans ⟨fun b hb _ _ _ => c1 b (fun e => hb (Or.inr (Or.inr e))), fun k _ _ _ => by rw [c1 48 (by decide)]⟩
            obtain ⟨d1, d2⟩ := mdl_sl hM1 hmf (f := slU f j (ty, n, fun _ => 0)) (fun k hk => by
              obtain ⟨g1, g2, g3⟩ := hsM k hk
              rw [c1 67 (by decide), c1 68 (by decide), k67, k68]
              by_cases e : k = j
              · subst e
                rw [slU_eq, up_eq, up_eq]
                exact ⟨rfl, rfl, fun y y0 y1 => by rw [c2, if_pos (by omega)]⟩
              · rw [slU_ne e, up_ne _ _ (by omega), up_ne _ _ (by omega)]
                exact ⟨g1, g2, fun y y0 y1 => by rw [c2, if_neg (by omega), k69]; exact g3 y y0 y1⟩)
            exact Ok.ret ⟨_, d1, d2, by rw [c1 48 (by decide), k0, hp0], rfl, Or.inr ⟨hp0, rfl⟩⟩
        · rw [if_neg q2]
          exact Ok.pos rfl (bad 2 (by decide) (by unfold prbN; rw [if_neg (by omega), if_pos (by omega)]))
      · rw [if_neg q1]
        exact Ok.pos rfl (bad 2 (by decide) (by unfold prbN; rw [if_neg (by omega), if_pos (by omega)]))
    · rw [if_neg q]
      exact Ok.pos rfl (bad 1 (by decide) (by unfold prbN; rw [if_pos q]))
end
