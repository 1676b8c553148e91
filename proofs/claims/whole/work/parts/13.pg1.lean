/-! PURE 61: the reference's restore -/
theorem FX11_restore {G G1 : zGr} {ax ax1 : List Int} {cur cur1 : Int} {R : zRst} {M : zM} (hG : grok G1) (hax : axok ax1) (h : mdlW G ax cur R M) (hs : R.1 = some (G1, ax1, cur1)) : Ok (F_X11_restore M) (fun M1 => mdlW G1 ax1 cur1 R M1 ∧ keepC M M1 ∧ M1 48 0 = 0) := by
  obtain ⟨_, _, _, r1, r2, r3, r4⟩ := id h
  have h6 := hax.1
  have h5 := hG.2.2.1
  have hsv : M 48 37 = 1 ∧ M 75 0 = (ax1.length : Int) ∧ M 75 1 = (G1.2.2.length : Int) ∧ M 75 2 = G1.2.1 ∧ M 75 3 = G1.1 ∧ M 75 4 = cur1 ∧ (∀ (i : Nat) (a : Int), ax1[i]? = some a → M 70 i = a) ∧ ∀ (i : Nat) (L R : Int) (pr : List Int), G1.2.2[i]? = some (L, R, pr) → M 71 i = L ∧ M 72 i = R ∧ M 74 i = (pr.length : Int) ∧ ∀ (j : Nat) (v : Int), pr[j]? = some v → M 73 (60 * (i : Int) + j) = v := by
    rcases r1 with z | ⟨z1, G2, ax2, cur2, z2, z3⟩
    · rw [hs] at z; exact absurd z.2 (by intro q; cases q)
    · rw [hs] at z2; cases z2; exact ⟨z1, z3⟩
  obtain ⟨t0, t1, t2, t3, t4, t5, t6, t7⟩ := hsv
  unfold F_X11_restore F_X11_restore_J13
  refine Ok.neg (by omega) (Ok.lett ?_)
  have q0 : ∀ k : Int, k ≠ 0 → zs M 48 0 0 48 k = M 48 k := fun k a => zs_off _ _ (Or.inr a)
  have qz : zs M 48 0 0 48 0 = 0 := zs_at M 48 0 0
  have qb : ∀ b : Nat, b ≠ 48 → zs M 48 0 0 b = M b := fun b hb => zs_ne _ _ _ hb
  generalize zs M 48 0 0 = M0 at q0 qz qb ⊢
  unfold F_X11_restore_L18
  refine Ok.loop (fun z => ∃ k : Nat, z.1 = k ∧ k ≤ 300 ∧ (∀ b, b < 49 ∨ 53 < b → z.2 b = M0 b) ∧ (∀ i : Int, 0 ≤ i → i < k → z.2 52 i = M 73 i ∧ (i < 6 → z.2 49 i = M 70 i) ∧ (i < 5 → z.2 50 i = M 71 i ∧ z.2 51 i = M 72 i ∧ z.2 53 i = M 74 i))) (fun z => (400 - z.1).toNat) (fun M1 => (∀ b, b < 49 ∨ 53 < b → M1 b = M0 b) ∧ (∀ i : Int, 0 ≤ i → i < 300 → M1 52 i = M 73 i ∧ (i < 6 → M1 49 i = M 70 i) ∧ (i < 5 → M1 50 i = M 71 i ∧ M1 51 i = M 72 i ∧ M1 53 i = M 74 i))) ⟨0, rfl, by omega, fun _ _ => rfl, fun i i0 i1 => by omega⟩ (by show (400 - (0 : Int)).toNat < zN; decide) ?_ ?_
  · rintro ⟨v1, M1⟩ ⟨k, i1, i2, i3, i4⟩
    dsimp only at i1 i2 i3 i4 ⊢
    subst i1
    unfold F_X11_restore_B18
    have h37 : M1 48 37 = 1 := by rw [i3 48 (by omega), q0 37 (by decide)]; exact t0
    refine Ok.ite (fun q => Ok.neg (by omega) ?_) (fun q => Ok.ret ⟨i3, fun i i0 i1 => i4 i i0 (by omega)⟩)
    have d6 : zrem (k : Int) 6 = ((k % 6 : Nat) : Int) := by rw [zrem_e (by omega) (by omega) (by decide) (by decide)]; omega
    have d5 : zrem (k : Int) 5 = ((k % 5 : Nat) : Int) := by rw [zrem_e (by omega) (by omega) (by decide) (by decide)]; omega
    rw [d6, d5, w_id (a := (k : Int) + 1) (by omega)]
    have b0 : (0 : Int) ≤ (k : Int) ∧ (k : Int) < 300 := ⟨by omega, q⟩
    have b6 : (0 : Int) ≤ ((k % 6 : Nat) : Int) ∧ ((k % 6 : Nat) : Int) < 6 := ⟨by omega, by omega⟩
    have b5 : (0 : Int) ≤ ((k % 5 : Nat) : Int) ∧ ((k % 5 : Nat) : Int) < 5 := ⟨by omega, by omega⟩
    refine Ok.chk b0 (Ok.chk b0 (Ok.lett (Ok.chk b6 (Ok.chk b6 (Ok.lett (Ok.chk b5 (Ok.chk b5 (Ok.lett (Ok.chk b5 (Ok.chk b5 (Ok.lett (Ok.chk b5 (Ok.chk b5 (Ok.lett (Ok.lett (Ok.ret ⟨⟨k + 1, by show (k : Int) + 1 = _; omega, by omega, fun b hb => ?_, fun i i0 i1 => ?_⟩, by show (400 - ((k : Int) + 1)).toNat < (400 - (k : Int)).toNat; omega⟩))))))))))))))))
    · dsimp only
      rw [zs_ne _ _ _ (by omega), zs_ne _ _ _ (by omega), zs_ne _ _ _ (by omega), zs_ne _ _ _ (by omega), zs_ne _ _ _ (by omega)]
      exact i3 b hb
    · have m73 : M1 73 = M 73 := by rw [i3 73 (by omega), qb 73 (by decide)]
      have m70 : M1 70 = M 70 := by rw [i3 70 (by omega), qb 70 (by decide)]
      have m71 : M1 71 = M 71 := by rw [i3 71 (by omega), qb 71 (by decide)]
      have m72 : M1 72 = M 72 := by rw [i3 72 (by omega), qb 72 (by decide)]
      have m74 : M1 74 = M 74 := by rw [i3 74 (by omega), qb 74 (by decide)]
      have n : ∀ (M : zM) (a b : Nat) (k v : Int), b ≠ a → zs M a k v b = M b := fun M a b k v hb => zs_ne M k v hb
      dsimp only
      refine ⟨?_, fun h6 => ?_, fun h5 => ⟨?_, ?_, ?_⟩⟩
      · rw [n _ 53 52 _ _ (by decide), n _ 51 52 _ _ (by decide), n _ 50 52 _ _ (by decide), n _ 49 52 _ _ (by decide), m73]
        by_cases e : i = k
        · rw [e, zs_at]
        · rw [zs_off _ _ (Or.inr e)]; exact (i4 i i0 (by omega)).1
      · rw [n _ 53 49 _ _ (by decide), n _ 51 49 _ _ (by decide), n _ 50 49 _ _ (by decide), n _ 52 70 _ _ (by decide), m70]
        by_cases e : i = ((k % 6 : Nat) : Int)
        · rw [e, zs_at]
        · rw [zs_off _ _ (Or.inr e), n _ 52 49 _ _ (by decide)]; exact (i4 i i0 (by omega)).2.1 h6
      · rw [n _ 53 50 _ _ (by decide), n _ 51 50 _ _ (by decide), n _ 49 71 _ _ (by decide), n _ 52 71 _ _ (by decide), m71]
        by_cases e : i = ((k % 5 : Nat) : Int)
        · rw [e, zs_at]
        · rw [zs_off _ _ (Or.inr e), n _ 49 50 _ _ (by decide), n _ 52 50 _ _ (by decide)]; exact ((i4 i i0 (by omega)).2.2 h5).1
      · rw [n _ 53 51 _ _ (by decide), n _ 50 72 _ _ (by decide), n _ 49 72 _ _ (by decide), n _ 52 72 _ _ (by decide), m72]
        by_cases e : i = ((k % 5 : Nat) : Int)
        · rw [e, zs_at]
        · rw [zs_off _ _ (Or.inr e), n _ 50 51 _ _ (by decide), n _ 49 51 _ _ (by decide), n _ 52 51 _ _ (by decide)]; exact ((i4 i i0 (by omega)).2.2 h5).2.1
      · rw [n _ 51 74 _ _ (by decide), n _ 50 74 _ _ (by decide), n _ 49 74 _ _ (by decide), n _ 52 74 _ _ (by decide), m74]
        by_cases e : i = ((k % 5 : Nat) : Int)
        · rw [e, zs_at]
        · rw [zs_off _ _ (Or.inr e), n _ 51 53 _ _ (by decide), n _ 50 53 _ _ (by decide), n _ 49 53 _ _ (by decide), n _ 52 53 _ _ (by decide)]; exact ((i4 i i0 (by omega)).2.2 h5).2.2
  · intro M1 ⟨c1, c2⟩
    unfold F_X11_restore_J116
    have ne75 : ∀ (M : zM) (k v : Int), zs M 48 k v 75 = M 75 := fun M k v => zs_ne M k v (by decide)
    have m48 : M1 48 = M0 48 := c1 48 (by omega)
    have m75 : M1 75 = M 75 := by rw [c1 75 (by omega), qb 75 (by decide)]
    refine Ok.neg (by rw [m48, q0 37 (by decide)]; omega) (Ok.lett (Ok.lett (Ok.lett (Ok.lett (Ok.lett (Ok.ret ?_))))))
    simp only [ne75, m75, t1, t2, t3, t4, t5]
    obtain ⟨M2, hM2⟩ : ∃ M2, M2 = zs (zs (zs (zs (zs M1 48 2 (ax1.length : Int)) 48 7 (G1.2.2.length : Int)) 48 8 G1.2.1) 48 9 G1.1) 48 29 cur1 := ⟨_, rfl⟩
    rw [← hM2]
    have eb : ∀ b : Nat, b ≠ 48 → M2 b = M1 b := fun b hb => by rw [hM2, zs_ne _ _ _ hb, zs_ne _ _ _ hb, zs_ne _ _ _ hb, zs_ne _ _ _ hb, zs_ne _ _ _ hb]
    have v0 : M2 48 2 = (ax1.length : Int) := by rw [hM2, zs_off _ _ (Or.inr (by decide)), zs_off _ _ (Or.inr (by decide)), zs_off _ _ (Or.inr (by decide)), zs_off _ _ (Or.inr (by decide)), zs_at]
    have v1 : M2 48 7 = (G1.2.2.length : Int) := by rw [hM2, zs_off _ _ (Or.inr (by decide)), zs_off _ _ (Or.inr (by decide)), zs_off _ _ (Or.inr (by decide)), zs_at]
    have v2 : M2 48 8 = G1.2.1 := by rw [hM2, zs_off _ _ (Or.inr (by decide)), zs_off _ _ (Or.inr (by decide)), zs_at]
    have v3 : M2 48 9 = G1.1 := by rw [hM2, zs_off _ _ (Or.inr (by decide)), zs_at]
    have v4 : M2 48 29 = cur1 := by rw [hM2, zs_at]
    have vk : ∀ k : Int, k ≠ 2 → k ≠ 7 → k ≠ 8 → k ≠ 9 → k ≠ 29 → M2 48 k = M0 48 k := fun k a b c d e => by rw [hM2, zs_off _ _ (Or.inr e), zs_off _ _ (Or.inr d), zs_off _ _ (Or.inr c), zs_off _ _ (Or.inr b), zs_off _ _ (Or.inr a), m48]
    clear hM2
    have eo : ∀ b : Nat, b ≠ 48 → (b < 49 ∨ 53 < b) → M2 b = M b := fun b h48 hb => by rw [eb b h48, c1 b hb, qb b h48]
    refine ⟨⟨⟨v1, v2, v3, fun i L R pr hi => ?_⟩, ⟨v0, fun i a hi => ?_⟩, v4, ?_, ?_, ?_, ?_⟩, fun b hb => eo b (by omega) (by omega), by rw [vk 0 (by decide) (by decide) (by decide) (by decide) (by decide)]; exact qz⟩
    · have hl := (List.getElem?_eq_some_iff.mp hi).1
      obtain ⟨p1, p2, p3, p4⟩ := t7 i L R pr hi
      have hpw := (hG.2.2.2 _ (List.mem_of_getElem? hi)).2.2.2.1
      dsimp only at hpw
      obtain ⟨s1, s2, s3⟩ := (c2 i (by omega) (by omega)).2.2 (by omega)
      unfold prgM
      rw [eb 50 (by decide), eb 51 (by decide), eb 52 (by decide), eb 53 (by decide), s1, s2, s3]
      refine ⟨p1, p2, p3, fun j v hj => ?_⟩
      have hjl := (List.getElem?_eq_some_iff.mp hj).1
      rw [(c2 (60 * (i : Int) + j) (by omega) (by omega)).1]
      exact p4 j v hj
    · have := (List.getElem?_eq_some_iff.mp hi).1
      rw [eb 49 (by decide), (c2 i (by omega) (by omega)).2.1 (by omega)]
      exact t6 i a hi
    · unfold savM at *
      rw [vk 37 (by decide) (by decide) (by decide) (by decide) (by decide), q0 37 (by decide), eo 70 (by decide) (by decide), eo 71 (by decide) (by decide), eo 72 (by decide) (by decide), eo 73 (by decide) (by decide), eo 74 (by decide) (by decide), eo 75 (by decide) (by decide)]
      exact r1
    · rw [vk 11 (by decide) (by decide) (by decide) (by decide) (by decide), q0 11 (by decide), eo 54 (by decide) (by decide)]; exact r2
    · rw [vk 14 (by decide) (by decide) (by decide) (by decide) (by decide), q0 14 (by decide)]; exact r3
    · unfold sltM at *
      rw [eo 67 (by decide) (by decide), eo 68 (by decide) (by decide), eo 69 (by decide) (by decide)]
      exact r4
