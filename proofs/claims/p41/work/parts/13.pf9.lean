/-! PURE 60: the class's restore -/
theorem CX_restore {B : Int} {G G1 : zGr} {ax ax1 : List Int} {cur cur1 : Int} {R : zRst} {M : zM} {S : zS} (hC : clsW B G ax cur R M S) (hs : R.1 = some (G1, ax1, cur1)) : Ok (F_X10_restore M S) (fun r => r.1 = .inr () ∧ clsW B G1 ax1 cur1 R r.2.1 r.2.2 ∧ keepM S M r.2.1 ∧ sRef 7 S r.2.2) := by
  obtain ⟨a1, a2, ⟨g1, g2, g3, g4⟩, ⟨f1, f2⟩, ⟨x1, x2⟩, a6, a7, ⟨n1, n2, n3⟩, r1, r2, r3, r4⟩ := hC
  have hsv : M 1 10 = 1 ∧ (grok G1 ∧ axok ax1 ∧ wd cur1) ∧ gS M S G1 ∧ axS M ax1 ∧ M 1 9 = cur1 := by
    rcases r1 with z | ⟨z1, G2, ax2, cur2, z2, z3⟩
    · rw [hs] at z; exact absurd z.2 (by intro q; cases q)
    · rw [hs] at z2; cases z2; exact ⟨z1, z3⟩
  obtain ⟨s0, s1, ⟨s2, s3, s4, s5⟩, ⟨s6, s7⟩, s8⟩ := hsv
  have h6 := s1.2.1.1
  have h5 := s1.1.2.2.1
  unfold F_X10_restore
  refine Ok.neg (by omega) (Ok.b2 (Q := fun r => sRef 7 S r.2 ∧ (∀ i : Nat, i < 5 → zrf r.2 7 i = zrf S 10 i) ∧ (∀ b, b ≠ 5 → b ≠ 6 → r.1 b = M b) ∧ r.1 5 2 = M 8 2 ∧ r.1 5 3 = M 8 3 ∧ r.1 5 4 = M 8 4 ∧ r.1 5 5 = M 8 5 ∧ ∀ k : Int, 0 ≤ k → k < 6 → r.1 6 k = M 9 k) ?_ (fun M1 S2 ⟨b1, b2, b3, b4, b5, b6, b7, b8⟩ => ?_))
  · unfold F_X2_copyFrom_a
    refine Ok.chk (by decide) (Ok.lett ?_)
    have z9 : ∀ k : Int, 0 ≤ k → k < 6 → zcpy M 9 0 6 0 6 6 k = M 9 k := fun k k0 k1 => by
      unfold zcpy
      rw [up_eq, if_pos ⟨k0, by omega⟩]
      congr 1
      omega
    have zb : ∀ b, b ≠ 6 → zcpy M 9 0 6 0 6 b = M b := fun b hb => up_ne _ _ hb
    generalize zcpy M 9 0 6 0 6 = M1 at z9 zb ⊢
    unfold F_X2_copyFrom_a_L17
    refine Ok.loop (fun z => ∃ k : Nat, z.1 = k ∧ k ≤ 5 ∧ sRef 7 S z.2 ∧ ∀ i : Nat, i < k → zrf z.2 7 i = zrf S 10 i) (fun z => (100 - z.1).toNat) (fun S2 => sRef 7 S S2 ∧ ∀ i : Nat, i < 5 → zrf S2 7 i = zrf S 10 i) ⟨0, rfl, by omega, ⟨rfl, rfl, fun _ _ _ => rfl⟩, fun i hi => absurd hi (Nat.not_lt_zero i)⟩ (by show (100 - (0 : Int)).toNat < zN; decide) ?_ ?_
    · rintro ⟨v2, S2⟩ ⟨k, i1, i2, i3, i4⟩
      dsimp only at i1 i2 i3 i4 ⊢
      subst i1
      unfold F_X2_copyFrom_a_B17
      have e7 : zrf S2 10 k = zrf S 10 k := i3.2.2 10 k (by decide)
      rw [w_id (a := (k : Int) + 1) (by omega)]
      refine Ok.ite (fun q => Ok.pos q (Ok.chk ⟨by omega, q⟩ (Ok.chk ⟨by omega, q⟩ ?_))) (fun q => Ok.ret ⟨i3, fun i hi => i4 i (by omega)⟩)
      rw [e7]
      have hcond : zrf S 10 k = 0 ∨ zkd S2 (zrf S 10 k) = 0 := by
        rcases f2 k (by omega) with z | z
        · exact Or.inl z
        · refine Or.inr ?_
          unfold zkd
          rw [i3.2.1]
          exact z.1
      refine Ok.chk hcond (Ok.lett (Ok.lett (Ok.ret ⟨⟨k + 1, by show (k : Int) + 1 = _; omega, by omega, ⟨i3.1, i3.2.1, fun a y ha => ?_⟩, fun i hi => ?_⟩, by show (100 - ((k : Int) + 1)).toNat < (100 - (k : Int)).toNat; omega⟩)))
      · show up S2.2.2 7 _ a y = _
        rw [up_ne _ _ ha]
        exact i3.2.2 a y ha
      · show up S2.2.2 7 (up (S2.2.2 7) k (zrf S 10 k)) 7 i = _
        rw [up_eq]
        by_cases e : i = k
        · rw [e, up_eq]
        · rw [up_ne _ _ (by omega)]
          exact i4 i (by omega)
    · intro S2 ⟨c1, c2⟩
      unfold F_X2_copyFrom_a_J53
      have ne8 : ∀ (M : zM) (k v : Int), zs M 5 k v 8 = M 8 := fun M k v => zs_ne M k v (by decide)
      have z8 := zb 8 (by decide)
      refine Ok.lett (Ok.lett (Ok.lett (Ok.lett (Ok.ret ⟨c1, c2, fun b h8 h9 => ?_, ?_, ?_, ?_, ?_, fun k k0 k1 => ?_⟩))))
      · dsimp only
        rw [zs_ne _ _ _ h8, zs_ne _ _ _ h8, zs_ne _ _ _ h8, zs_ne _ _ _ h8, zb b h9]
      · dsimp only
        simp only [ne8, z8]
        rw [zs_off _ _ (Or.inr (by decide)), zs_off _ _ (Or.inr (by decide)), zs_off _ _ (Or.inr (by decide)), zs_at]
      · dsimp only
        simp only [ne8, z8]
        rw [zs_off _ _ (Or.inr (by decide)), zs_off _ _ (Or.inr (by decide)), zs_at]
      · dsimp only
        simp only [ne8, z8]
        rw [zs_off _ _ (Or.inr (by decide)), zs_at]
      · dsimp only
        simp only [ne8, z8]
        rw [zs_at]
      · dsimp only
        rw [zs_ne _ _ _ (by decide), zs_ne _ _ _ (by decide), zs_ne _ _ _ (by decide), zs_ne _ _ _ (by decide)]
        exact z9 k k0 k1
  · dsimp only at b1 b2 b3 b4 b5 b6 b7 b8
    have e19 : M1 1 9 = cur1 := by rw [b3 1 (by decide) (by decide)]; exact s8
    rw [e19]
    refine Ok.lett ?_
    have eb : ∀ b : Nat, b ≠ 5 → b ≠ 6 → b ≠ 1 → zs M1 1 8 cur1 b = M b := fun b h8 h9 h1 => by rw [zs_ne _ _ _ h1, b3 b h8 h9]
    have e1 : ∀ k : Int, k ≠ 8 → zs M1 1 8 cur1 1 k = M 1 k := fun k h8 => by rw [zs_off _ _ (Or.inr h8), b3 1 (by decide) (by decide)]
    have e5 : zs M1 1 8 cur1 5 = M1 5 := zs_ne _ _ _ (by decide)
    have e6 : zs M1 1 8 cur1 6 = M1 6 := zs_ne _ _ _ (by decide)
    have e18 : zs M1 1 8 cur1 1 8 = cur1 := zs_at M1 1 8 cur1
    generalize zs M1 1 8 cur1 = M2 at eb e1 e5 e6 e18 ⊢
    have hctx : ∀ p L R pr, ctxok M S p L R pr → ctxok M2 S2 p L R pr := fun p L R pr q => by
      have hp := q.1.1
      exact (q.same (M1 := M2) (eb _ (by omega) (by omega) (by omega)) (eb _ (by omega) (by omega) (by omega)) (eb _ (by omega) (by omega) (by omega)) (eb _ (by omega) (by omega) (by omega))).ref b1 (by decide)
    have er : ∀ k : Int, zrf S2 10 k = zrf S 10 k := fun k => b1.2.2 10 k (by decide)
    have hkd : ∀ a, zkd S2 a = zkd S a := fun a => by unfold zkd; rw [b1.2.1]
    have hr2 : refS S2 10 := fun i hi => by rw [er, hkd, b1.1]; exact f2 i hi
    refine Ok.b1 (chg (B := B) (G := G1) (ax := ax1) (cur := cur1) (R := R) (M := M2) (S := S2) (a1.ref b1 (fun k => by cases k <;> rfl)) s1 ⟨by rw [e5, b5]; exact s2, by rw [e5, b6]; exact s3, by rw [e5, b7]; exact s4, fun j L R pr q => ?_⟩ ⟨fun i hi => ?_, hr2⟩ ⟨by rw [e5, b4]; exact s6, fun i v hi => ?_⟩ e18 (a7.1.fr (by rw [eb 11 (by decide) (by decide) (by decide)]) (eb 12 (by decide) (by decide) (by decide)) (eb 13 (by decide) (by decide) (by decide)) (eb 15 (by decide) (by decide) (by decide))) ⟨by rw [eb 25 (by decide) (by decide) (by decide)]; exact n1, by rw [eb 25 (by decide) (by decide) (by decide), eb 27 (by decide) (by decide) (by decide)]; exact n2⟩ ⟨?_, ?_, ?_, fun k hk => ?_⟩) (fun M3 ⟨d1, d2⟩ => Ok.ret ⟨rfl, d1, keepM.trans (fun b h1 h2 => eb b (by omega) (by omega) (by omega)) (fun b h1 h2 => d2 b h1 (by rw [b1.1, hkd]; exact h2)), b1⟩)
    · have := (List.getElem?_eq_some_iff.mp q).1
      rw [b2 j (by omega)]; exact hctx _ _ _ _ (s5 j L R pr q)
    · rw [b2 i hi, hkd, b1.1]; exact f2 i hi
    · have := (List.getElem?_eq_some_iff.mp hi).1
      rw [e6, b8 i (by omega) (by omega)]; exact s7 i v hi
    · refine Or.inr ⟨by rw [e1 10 (by decide)]; exact s0, G1, ax1, cur1, hs, s1, ⟨by rw [eb 8 (by decide) (by decide) (by decide)]; exact s2, by rw [eb 8 (by decide) (by decide) (by decide)]; exact s3, by rw [eb 8 (by decide) (by decide) (by decide)]; exact s4, fun j L R pr q => by rw [er]; exact hctx _ _ _ _ (s5 j L R pr q)⟩, ⟨by rw [eb 8 (by decide) (by decide) (by decide)]; exact s6, by rw [eb 9 (by decide) (by decide) (by decide)]; exact s7⟩, by rw [e1 9 (by decide)]; exact s8⟩
    · rw [eb 2 (by decide) (by decide) (by decide), eb 3 (by decide) (by decide) (by decide)]; exact r2
    · rw [e1 7 (by decide)]; exact r3
    · rw [eb (42 + 2 * k) (by omega) (by omega) (by omega), eb (43 + 2 * k) (by omega) (by omega) (by omega)]
      exact r4 k hk
