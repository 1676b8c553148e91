/-! PURE 64: removeContext, the reference's side; the law's step -/
/-- the grammar, the axioms, the text and the fault's position may change -/
theorem mdlW.grm {G G1 : zGr} {ax ax1 : List Int} {cur : Int} {R R1 : zRst} {M M1 : zM} (h : mdlW G ax cur R M) (hf : mfr (fun b => (49 ≤ b ∧ b ≤ 53) ∨ b = 55) (fun k => k = 0 ∨ k = 2 ∨ (7 ≤ k ∧ k ≤ 17)) M M1) (hg : gM M1 G1) (ha : axM M1 ax1) (e1 : R1.1 = R.1) (ht : M1 48 11 = (R1.2.1.length : Int) ∧ ∀ (i : Nat) (c : Int), R1.2.1[i]? = some c → M1 54 i = c) (hq : M1 48 14 = R1.2.2.1) (es : R1.2.2.2 = R.2.2.2) : mdlW G1 ax1 cur R1 M1 ∧ keepC M M1 := by
  obtain ⟨h1, h2, h3, r1, r2, r3, r4⟩ := h
  have e : ∀ k : Int, k = 29 ∨ k = 37 → M1 48 k = M 48 k := fun k a => hf.2 k (by omega) (by omega) (by omega)
  have eb : ∀ b : Nat, b = 54 ∨ (67 ≤ b ∧ b ≤ 75) → M1 b = M b := fun b a => hf.1 b (by omega) (by omega) (by omega) (by omega)
  refine ⟨⟨hg, ha, by rw [e 29 (by decide)]; exact h3, ?_, ht, hq, ?_⟩, keepC.of hf (fun b q => by omega)⟩
  · rw [e1]
    unfold savM at *
    rw [e 37 (by decide), eb 70 (by decide), eb 71 (by decide), eb 72 (by decide), eb 73 (by decide), eb 74 (by decide), eb 75 (by decide)]
    exact r1
  · rw [es]
    unfold sltM at *
    rw [eb 67 (by decide), eb 68 (by decide), eb 69 (by decide)]
    exact r4
/-- a context taken out of the reference's rows -/
def shf (M0 M : zM) (t k : Nat) : Prop := ∀ j : Nat, M 50 j = (if t ≤ j ∧ j < k then M0 50 ((j : Int) + 1) else M0 50 j) ∧ M 51 j = (if t ≤ j ∧ j < k then M0 51 ((j : Int) + 1) else M0 51 j) ∧ M 53 j = (if t ≤ j ∧ j < k then M0 53 ((j : Int) + 1) else M0 53 j) ∧ ∀ v : Nat, v < 60 → M 52 (60 * (j : Int) + v) = if t ≤ j ∧ j < k then M0 52 (60 * ((j : Int) + 1) + v) else M0 52 (60 * (j : Int) + v)
theorem FX11_dropC {t n : Nat} {M2 : zM} (ht : t < n) (h5 : n ≤ 5) (k7 : M2 48 7 = (n : Int) - 1) : Ok (F_X11_removeContext_L31 t M2) (fun M3 => (∀ b, b ≠ 50 → b ≠ 51 → b ≠ 52 → b ≠ 53 → M3 b = M2 b) ∧ shf M2 M3 t (n - 1)) := by
  unfold F_X11_removeContext_L31
  refine Ok.loop (fun z => ∃ k : Nat, z.1 = k ∧ t ≤ k ∧ k < n ∧ (∀ b, b ≠ 50 → b ≠ 51 → b ≠ 52 → b ≠ 53 → z.2 b = M2 b) ∧ shf M2 z.2 t k) (fun z => (100 - z.1).toNat) (fun M3 => (∀ b, b ≠ 50 → b ≠ 51 → b ≠ 52 → b ≠ 53 → M3 b = M2 b) ∧ shf M2 M3 t (n - 1)) ⟨t, rfl, Nat.le_refl t, ht, fun _ _ _ _ _ => rfl, fun j => ⟨by rw [if_neg (by omega)], by rw [if_neg (by omega)], by rw [if_neg (by omega)], fun v hv => by rw [if_neg (by omega)]⟩⟩ (by show (100 - (t : Int)).toNat < zN; rw [zN_v]; omega) ?_ (fun M3 q => by unfold F_X11_removeContext_J125; exact Ok.ret q)
  rintro ⟨v2, M3⟩ ⟨k, i1, i2, i3, i4, i5⟩
  dsimp only at i1 i2 i3 i4 i5 ⊢
  subst i1
  unfold F_X11_removeContext_B31
  rw [i4 48 (by decide) (by decide) (by decide) (by decide), k7]
  refine Ok.ite (fun c => ?_) (fun c => Ok.ret ⟨i4, by rw [show n - 1 = k by omega]; exact i5⟩)
  rw [w_id (a := (k : Int) + 1) (by omega)]
  have c1 : (0 : Int) ≤ (k : Int) + 1 ∧ (k : Int) + 1 < 5 := by omega
  have c0 : (0 : Int) ≤ (k : Int) ∧ (k : Int) < 5 := by omega
  refine Ok.chk c1 (Ok.chk c0 (Ok.lett (Ok.chk c1 (Ok.chk c0 (Ok.lett (Ok.chk c1 (Ok.chk c0 (Ok.lett ?_))))))))
  have n : ∀ (M : zM) (a b : Nat) (k v : Int), b ≠ a → zs M a k v b = M b := fun M a b k v hb => zs_ne M k v hb
  obtain ⟨M4, hM4⟩ : ∃ M4, M4 = zs (zs (zs M3 50 k (M3 50 ((k : Int) + 1))) 51 k (M3 51 ((k : Int) + 1))) 53 k (M3 53 ((k : Int) + 1)) := ⟨_, rfl⟩
  have hM4b : zs (zs (zs M3 50 k (M3 50 ((k : Int) + 1))) 51 k (zs M3 50 k (M3 50 ((k : Int) + 1)) 51 ((k : Int) + 1))) 53 k (zs (zs M3 50 k (M3 50 ((k : Int) + 1))) 51 k (zs M3 50 k (M3 50 ((k : Int) + 1)) 51 ((k : Int) + 1)) 53 ((k : Int) + 1)) = M4 := by
    rw [hM4, n M3 50 51 _ _ (by decide), n _ 51 53 _ _ (by decide), n M3 50 53 _ _ (by decide)]
  rw [hM4b]
  clear hM4b
  have f50 : ∀ j : Int, M4 50 j = if j = k then M3 50 ((k : Int) + 1) else M3 50 j := fun j => by
    rw [hM4, n _ 53 50 _ _ (by decide), n _ 51 50 _ _ (by decide)]
    by_cases e : j = k
    · rw [e, zs_at, if_pos rfl]
    · rw [zs_off _ _ (Or.inr e), if_neg e]
  have f51 : ∀ j : Int, M4 51 j = if j = k then M3 51 ((k : Int) + 1) else M3 51 j := fun j => by
    rw [hM4, n _ 53 51 _ _ (by decide)]
    by_cases e : j = k
    · rw [e, zs_at, if_pos rfl]
    · rw [zs_off _ _ (Or.inr e), if_neg e, n _ 50 51 _ _ (by decide)]
  have f53 : ∀ j : Int, M4 53 j = if j = k then M3 53 ((k : Int) + 1) else M3 53 j := fun j => by
    rw [hM4]
    by_cases e : j = k
    · rw [e, zs_at, if_pos rfl]
    · rw [zs_off _ _ (Or.inr e), if_neg e, n _ 51 53 _ _ (by decide), n _ 50 53 _ _ (by decide)]
  have fb : ∀ b, b ≠ 50 → b ≠ 51 → b ≠ 53 → M4 b = M3 b := fun b b1 b2 b3 => by rw [hM4, n _ 53 b _ _ b3, n _ 51 b _ _ b2, n _ 50 b _ _ b1]
  clear hM4
  unfold F_X11_removeContext_L83
  refine Ok.loop (fun z => ∃ u : Nat, z.1 = u ∧ u ≤ 60 ∧ (∀ b, b ≠ 52 → z.2 b = M4 b) ∧ ∀ j v : Nat, v < 60 → z.2 52 (60 * (j : Int) + v) = if j = k ∧ v < u then M4 52 (60 * ((j : Int) + 1) + v) else M4 52 (60 * (j : Int) + v)) (fun z => (100 - z.1).toNat) (fun M5 => (∀ b, b ≠ 52 → M5 b = M4 b) ∧ ∀ j v : Nat, v < 60 → M5 52 (60 * (j : Int) + v) = if j = k then M4 52 (60 * ((j : Int) + 1) + v) else M4 52 (60 * (j : Int) + v)) ⟨0, rfl, by omega, fun _ _ => rfl, fun j v hv => by rw [if_neg (by omega)]⟩ (by show (100 - (0 : Int)).toNat < zN; decide) ?_ ?_
  · rintro ⟨v3, M5⟩ ⟨u, j1, j2, j3, j4⟩
    dsimp only at j1 j2 j3 j4 ⊢
    subst j1
    unfold F_X11_removeContext_B83
    refine Ok.ite (fun q => ?_) (fun q => Ok.ret ⟨j3, fun j v hv => ?_⟩)
    · rw [w_id (a := 60 * ((k : Int) + 1) + u) (by omega), w_id (a := 60 * (k : Int) + u) (by omega), w_id (a := (u : Int) + 1) (by omega)]
      refine Ok.chk ⟨by omega, by omega⟩ (Ok.chk ⟨by omega, by omega⟩ (Ok.lett (Ok.lett (Ok.ret ⟨⟨u + 1, by show (u : Int) + 1 = _; omega, by omega, fun b hb => ?_, fun j v hv => ?_⟩, by show (100 - ((u : Int) + 1)).toNat < (100 - (u : Int)).toNat; omega⟩))))
      · dsimp only
        rw [zs_ne _ _ _ hb]; exact j3 b hb
      · dsimp only
        by_cases e : j = k ∧ v = u
        · obtain ⟨e1, e2⟩ := e
          subst e1
          subst e2
          rw [zs_at, if_pos ⟨rfl, by omega⟩]
          have h := j4 (j + 1) v hv
          rw [if_neg (by omega), show ((j + 1 : Nat) : Int) = (j : Int) + 1 by omega] at h
          exact h
        · rw [zs_off _ _ (Or.inr (by omega)), j4 j v hv]
          by_cases e2 : j = k ∧ v < u
          · rw [if_pos e2, if_pos ⟨e2.1, by omega⟩]
          · rw [if_neg e2, if_neg (by omega)]
    · rw [j4 j v hv]
      by_cases e : j = k
      · rw [if_pos ⟨e, by omega⟩, if_pos e]
      · rw [if_neg (fun q => e q.1), if_neg e]
  · intro M5 ⟨d1, d2⟩
    unfold F_X11_removeContext_J119
    rw [w_id (a := (k : Int) + 1) (by omega)]
    refine Ok.lett (Ok.ret ⟨⟨k + 1, by show (k : Int) + 1 = _; omega, by omega, by omega, fun b b1 b2 b3 b4 => by show M5 b = _; rw [d1 b b3, fb b b1 b2 b4]; exact i4 b b1 b2 b3 b4, fun j => ?_⟩, by show (100 - ((k : Int) + 1)).toNat < (100 - (k : Int)).toNat; omega⟩)
    have h0 := i5 j
    have h1 := i5 (k + 1)
    rw [show ((k + 1 : Nat) : Int) = (k : Int) + 1 by omega] at h1
    obtain ⟨p1, p2, p3, p4⟩ := h1
    rw [if_neg (by omega)] at p1 p2 p3
    dsimp only
    rw [d1 50 (by decide), d1 51 (by decide), d1 53 (by decide), f50, f51, f53, p1, p2, p3]
    obtain ⟨q1, q2, q3, q4⟩ := h0
    by_cases e : j = k
    · subst e
      rw [if_pos rfl, if_pos rfl, if_pos rfl, if_pos ⟨i2, Nat.lt_succ_self j⟩, if_pos ⟨i2, Nat.lt_succ_self j⟩, if_pos ⟨i2, Nat.lt_succ_self j⟩]
      refine ⟨rfl, rfl, rfl, fun v hv => ?_⟩
      rw [d2 j v hv, if_pos rfl, if_pos ⟨i2, Nat.lt_succ_self j⟩, fb 52 (by decide) (by decide) (by decide)]
      have h := p4 v hv
      rw [if_neg (by omega)] at h
      exact h
    · have en : ¬ ((j : Int) = (k : Int)) := by omega
      rw [if_neg en, if_neg en, if_neg en, q1, q2, q3]
      have hc : (t ≤ j ∧ j < k + 1) ↔ (t ≤ j ∧ j < k) := by omega
      simp only [hc]
      refine ⟨trivial, trivial, trivial, fun v hv => ?_⟩
      rw [d2 j v hv, if_neg e, fb 52 (by decide) (by decide) (by decide)]
      exact q4 v hv
theorem T_removeContext : stpT F_L_law_J343 := fun B G ax cur R M S lnS v5 scr P hB hC hM hb _ _ hn => by
  unfold F_L_law_J343
  simp only [zchk_pos hb]
  generalize scr (w (v5 + 1)) = t
  have h5 := hC.2.1.1.2.2.1
  refine blkNA (B1 := B) (mnRm.fnl (a := (G, ax, cur, R)) (b := ((G.1, G.2.1, G.2.2.eraseIdx t.toNat), ax, cur, R)) (p := 0 ≤ t ∧ t < (G.2.2.length : Int))) hC hM ?_ (fun M1 hst hM1 => ?_) (fun a M2 S2 x y => hn a M2 S2 (clsW.mono x (by omega)) y)
  · unfold F_L_removeContext
    refine wrapNA (V := fun r k => (¬ (0 ≤ t ∧ t < (G.2.2.length : Int)) ∧ r = .inl 2 ∧ k = (G, ax, cur, R)) ∨ ((0 ≤ t ∧ t < (G.2.2.length : Int)) ∧ r = .inr () ∧ k = ((G.1, G.2.1, G.2.2.eraseIdx t.toNat), ax, cur, R))) ?_ (fun e k M S q => ?_) (fun k q => ?_)
    · unfold F_X10_removeContext F_X10_requireContext F_X10_requireIndex F_X10_requireIndex_J9
      rw [hC.2.2.1.1]
      by_cases q : 0 ≤ t ∧ t < (G.2.2.length : Int)
      · rw [if_neg (by omega), if_pos q.2, zbx_inr, zbx_inr]
        obtain ⟨i, hi⟩ : ∃ i : Nat, t = i := ⟨t.toNat, by omega⟩
        subst hi
        rw [Int.toNat_natCast]
        exact (CX_removeContext hC (by omega)).mono (fun r ⟨d1, d2, d3⟩ => ⟨((G.1, G.2.1, G.2.2.eraseIdx i), ax, cur, R), d2, d3, Or.inr ⟨q, d1, rfl⟩⟩)
      · have hz : (if t < 0 then some (Sum.inl 2, M, zn S (99, 0)) else if t < (G.2.2.length : Int) then some (Sum.inr (), M, S) else some (Sum.inl 2, M, zn S (99, 0)) : Option ((Nat ⊕ Unit) × zM × zS)) = some (Sum.inl 2, M, zn S (99, 0)) := by
          by_cases z : t < 0
          · rw [if_pos z]
          · rw [if_neg z, if_neg (by omega)]
        rw [hz, zbx_inl, zbx_inl]
        exact Ok.ret ⟨(G, ax, cur, R), hC.zer _, keepM.refl, Or.inl ⟨q, rfl, rfl⟩⟩
    · rcases q with ⟨q1, q2, q3⟩ | ⟨q1, q2, q3⟩
      · cases q2; exact ⟨1, rfl, Or.inl ⟨q1, rfl, rfl, q3⟩⟩
      · cases q2
    · rcases q with ⟨q1, q2, q3⟩ | ⟨q1, q2, q3⟩
      · cases q2
      · exact Or.inr ⟨q1, rfl, rfl, q3⟩
  · obtain ⟨g1, g2, g3, g4⟩ := id hM1.1
    have e7 : zs M1 48 0 0 48 7 = (G.2.2.length : Int) := by rw [zs_off _ _ (Or.inr (by decide))]; exact g1
    unfold F_X11_removeContext F_X11_isContext
    refine Ok.lett ?_
    rw [e7, FX11_isIn, w_id (a := (G.2.2.length : Int) - 1) (by omega)]
    simp only [zb1_some]
    by_cases hq : 0 ≤ t ∧ t ≤ (G.2.2.length : Int) - 1
    · rw [if_pos hq, zchk_pos (by decide)]
      simp only [zb1_some]
      obtain ⟨i, hi⟩ : ∃ i : Nat, t = i := ⟨t.toNat, by omega⟩
      subst hi
      rw [Int.toNat_natCast]
      refine Ok.neg (by decide) (Ok.lett ?_)
      have hf0 : mfr (fun b => (49 ≤ b ∧ b ≤ 53) ∨ b = 55) (fun k => k = 0 ∨ k = 2 ∨ (7 ≤ k ∧ k ≤ 17)) M1 (zs (zs M1 48 0 0) 48 7 ((G.2.2.length : Int) - 1)) := mfr.trans (M1 := zs M1 48 0 0) (mfr.fld (Or.inl rfl)) (mfr.fld (by omega))
      have ek : ∀ k : Int, k ≠ 7 → k ≠ 0 → zs (zs M1 48 0 0) 48 7 ((G.2.2.length : Int) - 1) 48 k = M1 48 k := fun k a b => by rw [zs_off _ _ (Or.inr a), zs_off _ _ (Or.inr b)]
      have k0 : zs (zs M1 48 0 0) 48 7 ((G.2.2.length : Int) - 1) 48 0 = 0 := by rw [zs_off _ _ (Or.inr (by decide)), zs_at]
      have k7 : zs (zs M1 48 0 0) 48 7 ((G.2.2.length : Int) - 1) 48 7 = (G.2.2.length : Int) - 1 := zs_at _ 48 7 _
      have kb : ∀ b, b ≠ 48 → zs (zs M1 48 0 0) 48 7 ((G.2.2.length : Int) - 1) b = M1 b := fun b hb => by rw [zs_ne _ _ _ hb, zs_ne _ _ _ hb]
      generalize zs (zs M1 48 0 0) 48 7 ((G.2.2.length : Int) - 1) = M2 at hf0 k0 k7 kb ek ⊢
      refine (FX11_dropC (t := i) (n := G.2.2.length) (by omega) h5 k7).mono (fun M3 ⟨c1, c2⟩ => ?_)
      have m48 : M3 48 = M2 48 := c1 48 (by decide) (by decide) (by decide) (by decide)
      have hmf : mfr (fun b => (49 ≤ b ∧ b ≤ 53) ∨ b = 55) (fun k => k = 0 ∨ k = 2 ∨ (7 ≤ k ∧ k ≤ 17)) M1 M3 := hf0.trans ⟨fun b hb _ _ _ => c1 b (by omega) (by omega) (by omega) (by omega), fun k _ _ _ => by rw [m48]⟩
      obtain ⟨_, _, _, r1, r2, r3, r4⟩ := id hM1
      obtain ⟨x1, x2⟩ := hM1.2.1
      have hg4 : ∀ (j : Nat) (L R : Int) (pr : List Int), (G.2.2.eraseIdx i)[j]? = some (L, R, pr) → M3 50 j = L ∧ M3 51 j = R ∧ prgM M3 j pr := fun j L R pr q => by
        have q2 : (G.2.2.eraseIdx i)[j]? = some (L, R, pr) := q
        have hj := (List.getElem?_eq_some_iff.mp q2).1
        rw [List.length_eraseIdx_of_lt (by omega)] at hj
        rw [List.getElem?_eraseIdx] at q2
        obtain ⟨s1, s2, s3, s4⟩ := c2 j
        unfold prgM
        rw [s1, s2, s3, kb 50 (by decide), kb 51 (by decide), kb 53 (by decide)]
        by_cases e : j < i
        · rw [if_pos e] at q2
          rw [if_neg (by omega), if_neg (by omega), if_neg (by omega)]
          obtain ⟨p1, p2, p3, p4⟩ := g4 j L R pr q2
          have hpw := (hC.2.1.1.2.2.2 _ (List.mem_of_getElem? q2)).2.2.2.1
          dsimp only at hpw
          refine ⟨p1, p2, p3, fun u v hu => ?_⟩
          have hl := (List.getElem?_eq_some_iff.mp hu).1
          rw [s4 u (by omega), if_neg (by omega), kb 52 (by decide)]
          exact p4 u v hu
        · rw [if_neg e] at q2
          rw [if_pos (by omega), if_pos (by omega), if_pos (by omega)]
          obtain ⟨p1, p2, p3, p4⟩ := g4 (j + 1) L R pr q2
          have hpw := (hC.2.1.1.2.2.2 _ (List.mem_of_getElem? q2)).2.2.2.1
          dsimp only at hpw
          rw [show ((j + 1 : Nat) : Int) = (j : Int) + 1 by omega] at p1 p2 p3 p4
          refine ⟨p1, p2, p3, fun u v hu => ?_⟩
          have hl := (List.getElem?_eq_some_iff.mp hu).1
          rw [s4 u (by omega), if_pos (by omega), kb 52 (by decide)]
          exact p4 u v hu
      obtain ⟨d1, d2⟩ := hM1.grm (G1 := (G.1, G.2.1, G.2.2.eraseIdx i)) (ax1 := ax) (R1 := R) hmf ⟨by show M3 48 7 = ((G.2.2.eraseIdx i).length : Int); rw [m48, k7, List.length_eraseIdx_of_lt (by omega)]; omega, by rw [m48, ek 8 (by decide) (by decide)]; exact g2, by rw [m48, ek 9 (by decide) (by decide)]; exact g3, hg4⟩ ⟨by rw [m48, ek 2 (by decide) (by decide)]; exact x1, by rw [c1 49 (by decide) (by decide) (by decide) (by decide), kb 49 (by decide)]; exact x2⟩ rfl ⟨by rw [m48, ek 11 (by decide) (by decide)]; exact r2.1, by rw [c1 54 (by decide) (by decide) (by decide) (by decide), kb 54 (by decide)]; exact r2.2⟩ (by rw [m48, ek 14 (by decide) (by decide)]; exact r3) rfl
      exact ⟨((G.1, G.2.1, G.2.2.eraseIdx i), ax, cur, R), d1, d2, Or.inr ⟨by omega, by rw [m48, k0], rfl, rfl⟩⟩
    · rw [if_neg hq, zchk_pos (by decide)]
      simp only [zb1_some]
      exact Ok.pos trivial (Ok.lett (Ok.ret ⟨(G, ax, cur, R), hM1.scr (mfr.trans (mscr.th (v := 0)) mscr.th), keepC.scr (mfr.trans (mscr.th (v := 0)) mscr.th), Or.inl ⟨by omega, zs_at (zs M1 48 0 0) 48 0 1, rfl, rfl⟩⟩))
