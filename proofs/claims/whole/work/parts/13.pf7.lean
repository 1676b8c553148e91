/-! PURE 58: the reference's save; the law's step -/
theorem FX11_save {G : zGr} {ax : List Int} {cur : Int} {R : zRst} {M : zM} (hG : grok G) (hax : axok ax) (h : mdlW G ax cur R M) : Ok (F_X11_save M) (fun M1 => mdlW G ax cur (some (G, ax, cur), R.2) M1 ∧ keepC M M1) := by
  obtain ⟨⟨g1, g2, g3, g4⟩, ⟨x1, x2⟩, h3, r1, r2, r3, r4⟩ := id h
  have h6 := hax.1
  have h5 := hG.2.2.1
  unfold F_X11_save
  refine Ok.lett (Ok.lett ?_)
  have q0 : ∀ k : Int, k ≠ 0 → k ≠ 37 → zs (zs M 48 0 0) 48 37 1 48 k = M 48 k := fun k a b => by rw [zs_off _ _ (Or.inr b), zs_off _ _ (Or.inr a)]
  have q37 : zs (zs M 48 0 0) 48 37 1 48 37 = 1 := zs_at _ 48 37 1
  have qb : ∀ b : Nat, b ≠ 48 → zs (zs M 48 0 0) 48 37 1 b = M b := fun b hb => by rw [zs_ne _ _ _ hb, zs_ne _ _ _ hb]
  generalize zs (zs M 48 0 0) 48 37 1 = M0 at q0 q37 qb ⊢
  unfold F_X11_save_L12
  refine Ok.loop (fun z => ∃ k : Nat, z.1 = k ∧ k ≤ 300 ∧ (∀ b, b < 70 ∨ 74 < b → z.2 b = M0 b) ∧ (∀ i : Int, 0 ≤ i → i < k → z.2 73 i = M 52 i ∧ (i < 6 → z.2 70 i = M 49 i) ∧ (i < 5 → z.2 71 i = M 50 i ∧ z.2 72 i = M 51 i ∧ z.2 74 i = M 53 i))) (fun z => (400 - z.1).toNat) (fun M1 => (∀ b, b < 70 ∨ 74 < b → M1 b = M0 b) ∧ (∀ i : Int, 0 ≤ i → i < 300 → M1 73 i = M 52 i ∧ (i < 6 → M1 70 i = M 49 i) ∧ (i < 5 → M1 71 i = M 50 i ∧ M1 72 i = M 51 i ∧ M1 74 i = M 53 i))) ⟨0, rfl, by omega, fun _ _ => rfl, fun i i0 i1 => by omega⟩ (by show (400 - (0 : Int)).toNat < zN; decide) ?_ ?_
  · rintro ⟨v1, M1⟩ ⟨k, i1, i2, i3, i4⟩
    dsimp only at i1 i2 i3 i4 ⊢
    subst i1
    unfold F_X11_save_B12
    refine Ok.ite (fun q => ?_) (fun q => Ok.ret ⟨i3, fun i i0 i1 => i4 i i0 (by omega)⟩)
    have d6 : zrem (k : Int) 6 = ((k % 6 : Nat) : Int) := by rw [zrem_e (by omega) (by omega) (by decide) (by decide)]; omega
    have d5 : zrem (k : Int) 5 = ((k % 5 : Nat) : Int) := by rw [zrem_e (by omega) (by omega) (by decide) (by decide)]; omega
    rw [d6, d5, w_id (a := (k : Int) + 1) (by omega)]
    have b0 : (0 : Int) ≤ (k : Int) ∧ (k : Int) < 300 := ⟨by omega, q⟩
    have b6 : (0 : Int) ≤ ((k % 6 : Nat) : Int) ∧ ((k % 6 : Nat) : Int) < 6 := ⟨by omega, by omega⟩
    have b5 : (0 : Int) ≤ ((k % 5 : Nat) : Int) ∧ ((k % 5 : Nat) : Int) < 5 := ⟨by omega, by omega⟩
    refine Ok.chk b0 (Ok.chk b0 (Ok.lett (Ok.chk b6 (Ok.chk b6 (Ok.lett (Ok.chk b5 (Ok.chk b5 (Ok.lett (Ok.chk b5 (Ok.chk b5 (Ok.lett (Ok.chk b5 (Ok.chk b5 (Ok.lett (Ok.lett (Ok.ret ⟨⟨k + 1, by show (k : Int) + 1 = _; omega, by omega, fun b hb => ?_, fun i i0 i1 => ?_⟩, by show (400 - ((k : Int) + 1)).toNat < (400 - (k : Int)).toNat; omega⟩))))))))))))))))
    · dsimp only
      rw [zs_ne _ _ _ (by omega), zs_ne _ _ _ (by omega), zs_ne _ _ _ (by omega), zs_ne _ _ _ (by omega), zs_ne _ _ _ (by omega)]
      exact i3 b hb
    · have m52 : M1 52 = M 52 := by rw [i3 52 (by omega), qb 52 (by decide)]
      have m49 : M1 49 = M 49 := by rw [i3 49 (by omega), qb 49 (by decide)]
      have m50 : M1 50 = M 50 := by rw [i3 50 (by omega), qb 50 (by decide)]
      have m51 : M1 51 = M 51 := by rw [i3 51 (by omega), qb 51 (by decide)]
      have m53 : M1 53 = M 53 := by rw [i3 53 (by omega), qb 53 (by decide)]
      have n : ∀ (M : zM) (a b : Nat) (k v : Int), b ≠ a → zs M a k v b = M b := fun M a b k v hb => zs_ne M k v hb
      dsimp only
      refine ⟨?_, fun h6 => ?_, fun h5 => ⟨?_, ?_, ?_⟩⟩
      · rw [n _ 74 73 _ _ (by decide), n _ 72 73 _ _ (by decide), n _ 71 73 _ _ (by decide), n _ 70 73 _ _ (by decide), m52]
        by_cases e : i = k
        · rw [e, zs_at]
        · rw [zs_off _ _ (Or.inr e)]; exact (i4 i i0 (by omega)).1
      · rw [n _ 74 70 _ _ (by decide), n _ 72 70 _ _ (by decide), n _ 71 70 _ _ (by decide), n _ 73 49 _ _ (by decide), m49]
        by_cases e : i = ((k % 6 : Nat) : Int)
        · rw [e, zs_at]
        · rw [zs_off _ _ (Or.inr e), n _ 73 70 _ _ (by decide)]; exact (i4 i i0 (by omega)).2.1 h6
      · rw [n _ 74 71 _ _ (by decide), n _ 72 71 _ _ (by decide), n _ 70 50 _ _ (by decide), n _ 73 50 _ _ (by decide), m50]
        by_cases e : i = ((k % 5 : Nat) : Int)
        · rw [e, zs_at]
        · rw [zs_off _ _ (Or.inr e), n _ 70 71 _ _ (by decide), n _ 73 71 _ _ (by decide)]; exact ((i4 i i0 (by omega)).2.2 h5).1
      · rw [n _ 74 72 _ _ (by decide), n _ 71 51 _ _ (by decide), n _ 70 51 _ _ (by decide), n _ 73 51 _ _ (by decide), m51]
        by_cases e : i = ((k % 5 : Nat) : Int)
        · rw [e, zs_at]
        · rw [zs_off _ _ (Or.inr e), n _ 71 72 _ _ (by decide), n _ 70 72 _ _ (by decide), n _ 73 72 _ _ (by decide)]; exact ((i4 i i0 (by omega)).2.2 h5).2.1
      · rw [n _ 72 53 _ _ (by decide), n _ 71 53 _ _ (by decide), n _ 70 53 _ _ (by decide), n _ 73 53 _ _ (by decide), m53]
        by_cases e : i = ((k % 5 : Nat) : Int)
        · rw [e, zs_at]
        · rw [zs_off _ _ (Or.inr e), n _ 72 74 _ _ (by decide), n _ 71 74 _ _ (by decide), n _ 70 74 _ _ (by decide), n _ 73 74 _ _ (by decide)]; exact ((i4 i i0 (by omega)).2.2 h5).2.2
  · intro M1 ⟨c1, c2⟩
    unfold F_X11_save_J103
    have ne48 : ∀ (M : zM) (k v : Int), zs M 75 k v 48 = M 48 := fun M k v => zs_ne M k v (by decide)
    have m48 : M1 48 = M0 48 := c1 48 (by omega)
    refine Ok.lett (Ok.lett (Ok.lett (Ok.lett (Ok.lett (Ok.ret ?_)))))
    simp only [ne48, m48, q0 2 (by decide) (by decide), q0 7 (by decide) (by decide), q0 8 (by decide) (by decide), q0 9 (by decide) (by decide), q0 29 (by decide) (by decide), x1, g1, g2, g3, h3]
    obtain ⟨M2, hM2⟩ : ∃ M2, M2 = zs (zs (zs (zs (zs M1 75 0 (ax.length : Int)) 75 1 (G.2.2.length : Int)) 75 2 G.2.1) 75 3 G.1) 75 4 cur := ⟨_, rfl⟩
    rw [← hM2]
    have eb : ∀ b : Nat, b ≠ 75 → M2 b = M1 b := fun b hb => by rw [hM2, zs_ne _ _ _ hb, zs_ne _ _ _ hb, zs_ne _ _ _ hb, zs_ne _ _ _ hb, zs_ne _ _ _ hb]
    have v0 : M2 75 0 = (ax.length : Int) := by rw [hM2, zs_off _ _ (Or.inr (by decide)), zs_off _ _ (Or.inr (by decide)), zs_off _ _ (Or.inr (by decide)), zs_off _ _ (Or.inr (by decide)), zs_at]
    have v1 : M2 75 1 = (G.2.2.length : Int) := by rw [hM2, zs_off _ _ (Or.inr (by decide)), zs_off _ _ (Or.inr (by decide)), zs_off _ _ (Or.inr (by decide)), zs_at]
    have v2 : M2 75 2 = G.2.1 := by rw [hM2, zs_off _ _ (Or.inr (by decide)), zs_off _ _ (Or.inr (by decide)), zs_at]
    have v3 : M2 75 3 = G.1 := by rw [hM2, zs_off _ _ (Or.inr (by decide)), zs_at]
    have v4 : M2 75 4 = cur := by rw [hM2, zs_at]
    clear hM2
    have eo : ∀ b : Nat, b < 70 → b ≠ 48 → M2 b = M b := fun b hb h48 => by rw [eb b (by omega), c1 b (Or.inl hb), qb b h48]
    have e48 : ∀ k : Int, k ≠ 0 → k ≠ 37 → M2 48 k = M 48 k := fun k a b => by rw [eb 48 (by decide), m48]; exact q0 k a b
    show mdlW G ax cur (some (G, ax, cur), R.2) M2 ∧ keepC M M2
    have hmf : mfr (fun b => 70 ≤ b ∧ b ≤ 75) (fun k => k = 0 ∨ k = 37) M M2 := ⟨fun b hb h48 _ _ => by
      by_cases e : b < 70
      · exact eo b e h48
      · rw [eb b (by omega), c1 b (Or.inr (by omega)), qb b h48], fun k hk _ _ => e48 k (by omega) (by omega)⟩
    refine ⟨⟨(show gM M G from ⟨g1, g2, g3, g4⟩).fr hmf ⟨by omega, by omega, by omega, by omega⟩ ⟨by omega, by omega, by omega⟩, (show axM M ax from ⟨x1, x2⟩).fr hmf (by omega) (by omega), by rw [e48 29 (by decide) (by decide)]; exact h3, Or.inr ⟨by rw [eb 48 (by decide), m48]; exact q37, G, ax, cur, rfl, v0, v1, v2, v3, v4, fun i a hi => ?_, fun i L R pr hi => ?_⟩, ?_, ?_, ?_⟩, keepC.of hmf (fun b q => by omega)⟩
    · have := (List.getElem?_eq_some_iff.mp hi).1
      rw [eb 70 (by decide), (c2 i (by omega) (by omega)).2.1 (by omega)]
      exact x2 i a hi
    · have hl := (List.getElem?_eq_some_iff.mp hi).1
      obtain ⟨p1, p2, p3, p4⟩ := g4 i L R pr hi
      have hpw := (hG.2.2.2 _ (List.mem_of_getElem? hi)).2.2.2.1
      dsimp only at hpw
      obtain ⟨s1, s2, s3⟩ := (c2 i (by omega) (by omega)).2.2 (by omega)
      rw [eb 71 (by decide), eb 72 (by decide), eb 73 (by decide), eb 74 (by decide), s1, s2, s3]
      refine ⟨p1, p2, p3, fun j v hj => ?_⟩
      have hjl := (List.getElem?_eq_some_iff.mp hj).1
      rw [(c2 (60 * (i : Int) + j) (by omega) (by omega)).1]
      exact p4 j v hj
    · rw [e48 11 (by decide) (by decide), eo 54 (by decide) (by decide)]; exact r2
    · rw [e48 14 (by decide) (by decide)]; exact r3
    · unfold sltM at *
      rw [eo 67 (by decide) (by decide), eo 68 (by decide) (by decide), eo 69 (by decide) (by decide)]
      exact r4
theorem L_save {B : Int} {G : zGr} {ax : List Int} {cur : Int} {R : zRst} {M : zM} {S : zS} {lnS v5 : Int} {scr : Int → Int} {P : (Int × zM × zS) ⊕ (zM × zS) → Prop} (hC : clsW B G ax cur R M S) (hM : mdlW G ax cur R M) (hn : lxA B lnS scr v5 P) : Ok (F_L_law_J1835 lnS scr v5 M S) P := by
  unfold F_L_law_J1835
  refine Ok.b2 (CX_save hC) (fun M1 S1 ⟨a1, a2⟩ => ?_)
  dsimp only at a1 a2
  refine Ok.b1 (FX11_save hC.2.1.1 hC.2.1.2.1 (hM.keep a2)) (fun M2 ⟨b1, b2⟩ => ?_)
  exact hn (G, ax, cur, (some (G, ax, cur), R.2)) M2 S1 (clsW.keep a1 b2) b1
