/-! PURE 57: the class's save -/
/-- only references of array q have changed -/
def sRef (q : Nat) (S S1 : zS) : Prop := S1.1 = S.1 ∧ S1.2.1 = S.2.1 ∧ ∀ (a : Nat) (k : Int), a ≠ q → S1.2.2 a k = S.2.2 a k
theorem ctxok.ref {M : zM} {S S1 : zS} {p q : Nat} {L R : Int} {pr : List Int} (h : ctxok M S p L R pr) (i : sRef q S S1) (hq : q ≤ 89) : ctxok M S1 p L R pr := by
  obtain ⟨i1, i2, i3⟩ := i
  have ek : ∀ a : Nat, zkd S1 a = zkd S a ∧ zlen S1 a = zlen S a := fun a => by unfold zkd zlen; rw [i2]; exact ⟨rfl, rfl⟩
  have er : ∀ (a : Nat) (k : Int), 89 < a → zrf S1 a k = zrf S a k := fun a k ha => i3 a k (by omega)
  obtain ⟨⟨h1, h2, h3, h4, h5, h6, h7, h8, h9, h10, h11, h12⟩, ⟨a1, a2, a3⟩, r⟩ := h
  refine ⟨⟨h1, by rw [(ek _).1]; exact h2, by rw [(ek _).1]; exact h3, by rw [(ek _).1]; exact h4, by rw [(ek _).1]; exact h5, by rw [(ek _).1]; exact h6, by rw [(ek _).2]; exact h7, by rw [(ek _).2]; exact h8, by rw [er _ _ h1]; exact h9, by rw [er _ _ (by omega)]; exact h10, by rw [er _ _ (by omega)]; exact h11, by rw [er _ _ (by omega)]; exact h12⟩, ⟨by rw [(ek _).1]; exact a1, by rw [(ek _).2]; exact a2, a3⟩, r⟩
theorem zFx.ref {S S1 : zS} {q : Nat} (h : zFx S) (i : sRef q S S1) (hz : ∀ k : Nat, (zRT.getD q []).getD k 0 = 0) : zFx S1 := by
  obtain ⟨h1, h2, h3⟩ := h
  obtain ⟨i1, i2, i3⟩ := i
  refine ⟨by rw [i1]; exact h1, by rw [i2]; exact h2, fun a k hk => ?_⟩
  by_cases e : a = q
  · rw [e] at hk; exact absurd (hz k) hk
  · rw [i3 a k e]; exact h3 a k hk
theorem CX_save {B : Int} {G : zGr} {ax : List Int} {cur : Int} {R : zRst} {M : zM} {S : zS} (hC : clsW B G ax cur R M S) : Ok (F_X10_save M S) (fun r => clsW B G ax cur (some (G, ax, cur), R.2) r.1 r.2 ∧ keepM S M r.1 ∧ sRef 10 S r.2) := by
  obtain ⟨a1, a2, ⟨g1, g2, g3, g4⟩, ⟨f1, f2⟩, ⟨x1, x2⟩, a6, a7, a8, r1, r2, r3, r4⟩ := hC
  have h6 := a2.2.1.1
  have h5 := a2.1.2.2.1
  unfold F_X10_save
  refine Ok.b2 (Q := fun r => sRef 10 S r.2 ∧ (∀ i : Nat, i < 5 → zrf r.2 10 i = zrf S 7 i) ∧ (∀ b, b ≠ 8 → b ≠ 9 → r.1 b = M b) ∧ r.1 8 2 = M 5 2 ∧ r.1 8 3 = M 5 3 ∧ r.1 8 4 = M 5 4 ∧ r.1 8 5 = M 5 5 ∧ ∀ k : Int, 0 ≤ k → k < 6 → r.1 9 k = M 6 k) ?_ (fun M1 S2 ⟨b1, b2, b3, b4, b5, b6, b7, b8⟩ => ?_)
  · unfold F_X2_copyFrom_b
    refine Ok.chk (by decide) (Ok.lett ?_)
    have z9 : ∀ k : Int, 0 ≤ k → k < 6 → zcpy M 6 0 9 0 6 9 k = M 6 k := fun k k0 k1 => by
      unfold zcpy
      rw [up_eq, if_pos ⟨k0, by omega⟩]
      congr 1
      omega
    have zb : ∀ b, b ≠ 9 → zcpy M 6 0 9 0 6 b = M b := fun b hb => up_ne _ _ hb
    generalize zcpy M 6 0 9 0 6 = M1 at z9 zb ⊢
    unfold F_X2_copyFrom_b_L17
    refine Ok.loop (fun z => ∃ k : Nat, z.1 = k ∧ k ≤ 5 ∧ sRef 10 S z.2 ∧ ∀ i : Nat, i < k → zrf z.2 10 i = zrf S 7 i) (fun z => (100 - z.1).toNat) (fun S2 => sRef 10 S S2 ∧ ∀ i : Nat, i < 5 → zrf S2 10 i = zrf S 7 i) ⟨0, rfl, by omega, ⟨rfl, rfl, fun _ _ _ => rfl⟩, fun i hi => absurd hi (Nat.not_lt_zero i)⟩ (by show (100 - (0 : Int)).toNat < zN; decide) ?_ ?_
    · rintro ⟨v2, S2⟩ ⟨k, i1, i2, i3, i4⟩
      dsimp only at i1 i2 i3 i4 ⊢
      subst i1
      unfold F_X2_copyFrom_b_B17
      have e7 : zrf S2 7 k = zrf S 7 k := i3.2.2 7 k (by decide)
      rw [w_id (a := (k : Int) + 1) (by omega)]
      refine Ok.ite (fun q => Ok.pos q (Ok.chk ⟨by omega, q⟩ (Ok.chk ⟨by omega, q⟩ ?_))) (fun q => Ok.ret ⟨i3, fun i hi => i4 i (by omega)⟩)
      rw [e7]
      have hcond : zrf S 7 k = 0 ∨ zkd S2 (zrf S 7 k) = 0 := by
        rcases f1 k (by omega) with z | z
        · exact Or.inl z
        · refine Or.inr ?_
          unfold zkd
          rw [i3.2.1]
          exact z.1
      refine Ok.chk hcond (Ok.lett (Ok.lett (Ok.ret ⟨⟨k + 1, by show (k : Int) + 1 = _; omega, by omega, ⟨i3.1, i3.2.1, fun a y ha => ?_⟩, fun i hi => ?_⟩, by show (100 - ((k : Int) + 1)).toNat < (100 - (k : Int)).toNat; omega⟩)))
      · show up S2.2.2 10 _ a y = _
        rw [up_ne _ _ ha]
        exact i3.2.2 a y ha
      · show up S2.2.2 10 (up (S2.2.2 10) k (zrf S 7 k)) 10 i = _
        rw [up_eq]
        by_cases e : i = k
        · rw [e, up_eq]
        · rw [up_ne _ _ (by omega)]
          exact i4 i (by omega)
    · intro S2 ⟨c1, c2⟩
      unfold F_X2_copyFrom_b_J53
      have ne5 : ∀ (M : zM) (k v : Int), zs M 8 k v 5 = M 5 := fun M k v => zs_ne M k v (by decide)
      have z5 := zb 5 (by decide)
      refine Ok.lett (Ok.lett (Ok.lett (Ok.lett (Ok.ret ⟨c1, c2, fun b h8 h9 => ?_, ?_, ?_, ?_, ?_, fun k k0 k1 => ?_⟩))))
      · dsimp only
        rw [zs_ne _ _ _ h8, zs_ne _ _ _ h8, zs_ne _ _ _ h8, zs_ne _ _ _ h8, zb b h9]
      · dsimp only
        simp only [ne5, z5]
        rw [zs_off _ _ (Or.inr (by decide)), zs_off _ _ (Or.inr (by decide)), zs_off _ _ (Or.inr (by decide)), zs_at]
      · dsimp only
        simp only [ne5, z5]
        rw [zs_off _ _ (Or.inr (by decide)), zs_off _ _ (Or.inr (by decide)), zs_at]
      · dsimp only
        simp only [ne5, z5]
        rw [zs_off _ _ (Or.inr (by decide)), zs_at]
      · dsimp only
        simp only [ne5, z5]
        rw [zs_at]
      · dsimp only
        rw [zs_ne _ _ _ (by decide), zs_ne _ _ _ (by decide), zs_ne _ _ _ (by decide), zs_ne _ _ _ (by decide)]
        exact z9 k k0 k1
  · dsimp only at b1 b2 b3 b4 b5 b6 b7 b8
    have e18 : M1 1 8 = cur := by rw [b3 1 (by decide) (by decide)]; exact a6
    refine Ok.lett (Ok.lett (Ok.ret ?_))
    rw [e18]
    have eb : ∀ b : Nat, b ≠ 8 → b ≠ 9 → b ≠ 1 → zs (zs M1 1 9 cur) 1 10 1 b = M b := fun b h8 h9 h1 => by rw [zs_ne _ _ _ h1, zs_ne _ _ _ h1, b3 b h8 h9]
    have e1 : ∀ k : Int, k ≠ 9 → k ≠ 10 → zs (zs M1 1 9 cur) 1 10 1 1 k = M 1 k := fun k h9 h10 => by rw [zs_off _ _ (Or.inr h10), zs_off _ _ (Or.inr h9), b3 1 (by decide) (by decide)]
    have e8 : zs (zs M1 1 9 cur) 1 10 1 8 = M1 8 := by rw [zs_ne _ _ _ (by decide), zs_ne _ _ _ (by decide)]
    have e9 : zs (zs M1 1 9 cur) 1 10 1 9 = M1 9 := by rw [zs_ne _ _ _ (by decide), zs_ne _ _ _ (by decide)]
    have e110 : zs (zs M1 1 9 cur) 1 10 1 1 10 = 1 := zs_at _ 1 10 1
    have e19 : zs (zs M1 1 9 cur) 1 10 1 1 9 = cur := by rw [zs_off _ _ (Or.inr (by decide)), zs_at]
    generalize zs (zs M1 1 9 cur) 1 10 1 = M2 at eb e1 e8 e9 e110 e19 ⊢
    have hctx : ∀ p L R pr, ctxok M S p L R pr → ctxok M2 S2 p L R pr := fun p L R pr q => by
      have hp := q.1.1
      exact (q.same (M1 := M2) (eb _ (by omega) (by omega) (by omega)) (eb _ (by omega) (by omega) (by omega)) (eb _ (by omega) (by omega) (by omega)) (eb _ (by omega) (by omega) (by omega))).ref b1 (by decide)
    have er7 : ∀ k : Int, zrf S2 7 k = zrf S 7 k := fun k => b1.2.2 7 k (by decide)
    have hkd : ∀ a, zkd S2 a = zkd S a := fun a => by unfold zkd; rw [b1.2.1]
    show clsW B G ax cur (some (G, ax, cur), R.2) M2 S2 ∧ keepM S M M2 ∧ sRef 10 S S2
    refine ⟨⟨a1.ref b1 (fun k => by cases k <;> rfl), a2, ⟨?_, ?_, ?_, fun j L R pr q => ?_⟩, ⟨fun i hi => ?_, fun i hi => ?_⟩, ⟨?_, ?_⟩, ?_, a7.fr (e1 11 (by decide) (by decide)) (fun b hb => eb b (by have := hb.1; omega) (by have := hb.1; omega) (by have := hb.1; omega)), a8.fr (eb 25 (by decide) (by decide) (by decide)) (eb 26 (by decide) (by decide) (by decide)) (eb 27 (by decide) (by decide) (by decide)), Or.inr ⟨e110, G, ax, cur, rfl, a2, ⟨?_, ?_, ?_, fun j L R pr q => ?_⟩, ⟨?_, fun i v hi => ?_⟩, e19⟩, ?_, ?_, fun k hk => ?_⟩, fun b h1 h2 => eb b (by omega) (by omega) (by omega), b1⟩
    · rw [eb 5 (by decide) (by decide) (by decide)]; exact g1
    · rw [eb 5 (by decide) (by decide) (by decide)]; exact g2
    · rw [eb 5 (by decide) (by decide) (by decide)]; exact g3
    · rw [er7]; exact hctx _ _ _ _ (g4 j L R pr q)
    · rw [er7, hkd, b1.1]; exact f1 i hi
    · rw [b2 i hi, hkd, b1.1]; exact f1 i hi
    · rw [eb 5 (by decide) (by decide) (by decide)]; exact x1
    · rw [eb 6 (by decide) (by decide) (by decide)]; exact x2
    · rw [e1 8 (by decide) (by decide)]; exact a6
    · rw [e8, b5]; exact g1
    · rw [e8, b6]; exact g2
    · rw [e8, b7]; exact g3
    · have := (List.getElem?_eq_some_iff.mp q).1
      rw [b2 j (by omega)]; exact hctx _ _ _ _ (g4 j L R pr q)
    · rw [e8, b4]; exact x1
    · have := (List.getElem?_eq_some_iff.mp hi).1
      rw [e9, b8 i (by omega) (by omega)]; exact x2 i v hi
    · rw [eb 2 (by decide) (by decide) (by decide), eb 3 (by decide) (by decide) (by decide)]; exact r2
    · rw [e1 7 (by decide) (by decide)]; exact r3
    · rw [eb (42 + 2 * k) (by omega) (by omega) (by omega), eb (43 + 2 * k) (by omega) (by omega) (by omega)]
      exact r4 k hk
